/-- the model's codes in the data are these -/
def CodeR (d : Nat → Nat) (K : Nat) (t : Nat → Nat) : Prop :=
  0 < K ∧ (K ≤ 700 ∧ mPos t K ≤ 1200) ∧ WFt t K ∧ ((K = 1 ∧ t 0 = 10000 ∧ d 10 = 0) ∨ (d 10 = mPos t K ∧ ∀ k, k < K → (10004 ≤ t k → d (178 + mPos t k) = t k - 10002) ∧ (t k < 10000 → d (178 + mPos t k) = 0 ∧ d (178 + mPos t k + 1) = t k) ∧ (10000 ≤ t k → t k < 10004 → d (178 + mPos t k) = 1 ∧ d (178 + mPos t k + 1) = t k - 10000)))
theorem CodeR_congr {d d' : Nat → Nat} {K : Nat} {t : Nat → Nat} (h10 : d' 10 = d 10) (h : ∀ j, 178 ≤ j → d' j = d j) (hC : CodeR d K t) : CodeR d' K t := by
  obtain ⟨h1, h2, h3, h4⟩ := hC
  refine ⟨h1, h2, h3, ?_⟩
  rcases h4 with ⟨a, b, c⟩ | ⟨a, b⟩
  · exact Or.inl ⟨a, b, by rw [h10]; exact c⟩
  · refine Or.inr ⟨by rw [h10]; exact a, fun k hk => ?_⟩
    rw [h _ (by omega), h _ (by omega)]
    exact b k hk
/-- the price of a card -/
def varT (d : Nat → Nat) (p c : Nat) : Nat → Nat := tokV (d (11 + 19 * p + 3 + 2 * c + 1)) (ordN (idxN (d 0) (d (11 + 19 * p + 3 + 2 * c)))) (d 5) (d 6)
def priT (d : Nat → Nat) (K : Nat) (t : Nat → Nat) (p c : Nat) : Nat := priN (evJ (varT d p c) t (fun _ => 0) K 0)
section M85
variable {h : zH} {m N : Nat} {S B D E : Nat → Int32} {H : Nat → Nat → Int32} {J : Nat → Int64} {L U Z W : Nat → Int32} {d : Nat → Nat}
theorem m_priceE (x : Int64) : (if 0 ≤ lg_cmp x (0 : Int64) then if lg_cmp x (9999 : Int64) ≤ 0 then some (x.toInt32, h) else some ((9999 : Int32), h) else some ((0 : Int32), h)) = some (nI (priN x), h) := by
  simp only [lgc_le, lgc_ge]
  by_cases h1 : x < 0
  · rw [if_neg (Int64.not_le.mpr h1)]
    unfold priN
    rw [if_pos h1]
    rfl
  · rw [if_pos (Int64.not_lt.mp h1)]
    by_cases h2 : 9999 < x
    · rw [if_neg (Int64.not_le.mpr h2)]
      unfold priN
      rw [if_neg h1, if_pos h2]
      rfl
    · rw [if_pos (Int64.not_lt.mp h2), priN_in h1 h2]
end M85

section FNEG
variable {h : zH} {g N : Nat}
theorem zrem_neg {x : Int32} (hx : x < 0) : ∃ r, zremI x (10 : Int32) = some r ∧ r - (1 : Int32) < 0 := by
  refine ⟨x - x / 10 * 10, ?_, ?_⟩
  · unfold zremI
    rw [if_neg (by decide)]
  · rw [Int32.lt_iff_toInt_lt] at hx ⊢
    have e0 : (0 : Int32).toInt = 0 := by decide
    have e1 : (10 : Int32).toInt = 10 := by decide
    have e2 : (1 : Int32).toInt = 1 := by decide
    rw [e0] at hx ⊢
    have hl := Int32.le_toInt x
    have h0 := Int32.toInt_div x 10
    rw [e1] at h0
    have hd : x.toInt.tmod 10 = x.toInt - 10 * x.toInt.tdiv 10 := Int.tmod_def _ _
    have h2 : x.toInt.tmod 10 ≤ 0 := by
      have := Int.tmod_nonneg (a := -x.toInt) 10 (by omega)
      rw [Int.neg_tmod] at this
      omega
    have h3 : -10 < x.toInt.tmod 10 := by
      have := Int.tmod_lt_of_pos (-x.toInt) (b := 10) (by omega)
      rw [Int.neg_tmod] at this
      omega
    rw [Int.bmod_eq_of_le (by simp; omega) (by simp; omega)] at h0
    have h4 := Int32.toInt_mul (x / 10) 10
    rw [h0, e1, Int.bmod_eq_of_le (by simp; omega) (by simp; omega)] at h4
    have h5 := Int32.toInt_sub x (x / 10 * 10)
    rw [h4, Int.bmod_eq_of_le (by simp; omega) (by simp; omega)] at h5
    have h6 := Int32.toInt_sub (x - x / 10 * 10) 1
    rw [h5, e2, Int.bmod_eq_of_le (by simp; omega) (by simp; omega)] at h6
    rw [h6]
    omega
theorem x_from_ln (hG : GrpAt h g) {n : Nat} (hn : inN n) {x : Int32} (hx : x < 0) (k : Int32 → Int32 → Int32 → zH → Option (Int32 × zH)) :
    ∀ (p f seen key : Nat), p < f → n ≤ p → p ≤ 5 → seen < 32 → key < 5 ^ (5 - p) → f_X2_fromNumber_l11 N g (nI n) k f x (nI seen) (nI key) (nI p + (-1 : Int32)) h = some ((-1 : Int32), h) := by
  have o := fun (F : Option (Int32 × zH)) => onO_of' (F := F) hG.1
  have hn5 := inN_le hn
  obtain ⟨r, hr, hr2⟩ := zrem_neg hx
  intro p
  induction p with
  | zero => intro f seen key hf hp; omega
  | succ p ih =>
    intro f seen key hf hp hp5 hs hkey
    obtain ⟨f, rfl⟩ : ∃ m, f = m + 1 := ⟨f - 1, by omega⟩
    rw [f_X2_fromNumber_l11, npredL, if_neg (nI_pos (by omega))]
    simp only [zjn]
    by_cases hpn : p < n
    · have e2 : zdivI x (10 : Int32) = some (x / 10) := rfl
      rw [if_neg (by rw [nle (by omega) (by omega)]; omega), hr, Option.bind_some, e2, Option.bind_some, if_pos hr2]
    · have h6 : ¬ nI p ≤ 0 := by
        have h7 : ¬ (nI p ≤ nI 0) := by rw [nle (by omega) (by omega)]; omega
        exact h7
      have e1 : nI seen ||| (1 : Int32) <<< (nI p &&& 31) = nI (seen ||| 1 <<< p) := by
        rw [← nor, ← nshl1 (by omega)]
        rfl
      rw [show 5 - (p + 1) = 4 - p by omega] at hkey
      have hk2 : key < 200 := by
        have : 5 ^ (4 - p) ≤ 125 := by rcases (show p = 1 ∨ p = 2 ∨ p = 3 ∨ p = 4 by omega) with rfl | rfl | rfl | rfl <;> decide
        omega
      rw [if_pos (by rw [nle (by omega) (by omega)]; omega), if_neg h6, o, x_key (by omega) hk2, Option.bind_some, e1]
      refine ih f _ _ (by omega) (by omega) (by omega) (lor_lt32 hs (shl_lt32 (by omega))) ?_
      rw [show 5 - p = (4 - p) + 1 by omega, Nat.pow_succ]
      omega
/-- the element that an int tells -/
def eltI (n : Nat) (x : Int32) : Option Nat := if x < 0 then none else eltN n x.toInt.toNat
theorem toNat_nI {v : Nat} (hv : v < 2 ^ 31) : (nI v).toInt.toNat = v := by
  have := nI_toInt (n := v) (by omega)
  omega
theorem eltI_nI {n v : Nat} (hv : v < 2 ^ 31) : eltI n (nI v) = eltN n v := by
  rw [eltI, if_neg (nI_pos hv), toNat_nI hv]
theorem elt_some {n v e : Nat} (hn : inN n) (he : eltN n v = some e) : mE n v = true ∧ e < fctN n ∧ numN n e = v := by
  have h1 := okV_all hn v
  unfold okV at h1
  rw [he] at h1
  simp only [Bool.and_eq_true, Nat.blt_eq, Nat.beq_eq] at h1
  exact ⟨h1.1.1, h1.1.2, h1.2⟩
theorem elt_none {n v : Nat} (hn : inN n) (he : eltN n v = none) : mE n v = false := by
  have h1 := okV_all hn v
  unfold okV at h1
  rw [he] at h1
  simpa using h1
theorem elt_isSome {n v : Nat} (hn : inN n) : mE n v = (eltN n v).isSome := by
  cases he : eltN n v with
  | none => exact elt_none hn he
  | some e => exact (elt_some hn he).1
theorem eltI_some {n e : Nat} {x : Int32} (hn : inN n) (he : eltI n x = some e) : e < fctN n ∧ x = nI (numN n e) := by
  unfold eltI at he
  split at he
  · cases he
  · next hx =>
    rcases i32_cases x with h1 | ⟨v, hv, rfl⟩
    · exact absurd h1 hx
    · rw [toNat_nI hv] at he
      obtain ⟨_, h2, h3⟩ := elt_some hn he
      exact ⟨h2, by rw [h3]⟩
theorem x_fromNumber (hG : GrpAt h g) (hN : 10 < N) {n : Nat} (hn : inN n) (x : Int32) : f_X2_fromNumber N g x (nI n) h = some (eI (eltI n x), h) := by
  rcases i32_cases x with hx | ⟨v, hv, rfl⟩
  · have e4 : (4 : Int32) = nI 5 + (-1 : Int32) := by decide
    rw [f_X2_fromNumber, e4, eltI, if_pos hx]
    exact x_from_ln (N := N) hG hn hx _ 5 N 0 0 (by omega) (by have := inN_le hn; omega) (by omega) (by omega) (by decide)
  · rw [x_from_nat hG hN hn hv, eltI_nI hv]
end FNEG

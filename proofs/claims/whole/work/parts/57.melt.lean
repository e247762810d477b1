/-! ===== the model's inverse, and which numbers are elements ===== -/
def vI (n v t : Nat) : Nat → Nat → Nat → Nat
  | 0, _, r => r
  | d + 1, k, r => vI n v t d (k + 1) (if v / 10 ^ (n - k) % 10 = t then 10 * r + k else r)
def vO (n v : Nat) : Nat → Nat → Nat → Nat
  | 0, _, r => r
  | d + 1, t, r => vO n v d (t + 1) (vI n v t n 1 r)
def okV' (n e : Nat) : Bool := Nat.beq (vO n (numN n e) n 1 0) (numN n (invN e))
theorem okV'2 : (List.range 2).all (okV' 2) = true := by decide +kernel
theorem okV'3 : (List.range 6).all (okV' 3) = true := by decide +kernel
theorem okV'4 : (List.range 24).all (okV' 4) = true := by decide +kernel
theorem okV'5 : (List.range 120).all (okV' 5) = true := by decide +kernel
theorem vO_num {n e : Nat} (hn : inN n) (he : e < fctN n) : vO n (numN n e) n 1 0 = numN n (invN e) := by
  have h : okV' n e = true := by
    rcases hn with rfl | rfl | rfl | rfl
    · exact all_of okV'2 he
    · exact all_of okV'3 he
    · exact all_of okV'4 he
    · exact all_of okV'5 he
  exact Nat.eq_of_beq_eq_true h
theorem i32_cases (x : Int32) : x < 0 ∨ ∃ v : Nat, v < 2 ^ 31 ∧ x = nI v := by
  by_cases h : x < 0
  · exact Or.inl h
  · refine Or.inr ⟨x.toInt.toNat, ?_, ?_⟩
    · have := Int32.toInt_lt x
      omega
    · have h1 : ¬ x.toInt < 0 := fun h2 => h (Int32.lt_iff_toInt_lt.mpr h2)
      apply Int32.toInt_inj.mp
      have h2 := Int32.toInt_lt x
      have h3 : (nI x.toInt.toNat).toInt = (x.toInt.toNat : Int) := nI_toInt (by omega)
      rw [h3]
      omega
theorem lor_lt64 {a b : Nat} (ha : a < 64) (hb : b < 64) : a ||| b < 64 := Nat.or_lt_two_pow (n := 6) ha hb
theorem shl_lt64 {g : Nat} (hg : g < 6) : 1 <<< g < 64 := by
  rcases (show g = 0 ∨ g = 1 ∨ g = 2 ∨ g = 3 ∨ g = 4 ∨ g = 5 by omega) with rfl | rfl | rfl | rfl | rfl | rfl <;> decide
section MELT
variable {h : zH} {N : Nat}
theorem m_inv_l12 (hN : 10 < N) {n v t : Nat} (hn : n < 10) (hv : v < 2 ^ 31) (ht : t < 100) (k : Int32 → zH → Option (Int32 × zH)) : ∀ d f q r : Nat, d < f → q + d = n + 1 → f_X9_inverseOf_l12 N (nI v) (nI n) (nI t) k f (nI r) (nI q) h = k (nI (vI n v t d q r)) h := by
  intro d
  induction d with
  | zero =>
    intro f q r hf hq
    obtain ⟨f, rfl⟩ : ∃ m, f = m + 1 := ⟨f - 1, by omega⟩
    rw [f_X9_inverseOf_l12, if_pos (by rw [nlt (by omega) (by omega)]; omega), vI]
  | succ d ih =>
    intro f q r hf hq
    obtain ⟨f, rfl⟩ : ∃ m, f = m + 1 := ⟨f - 1, by omega⟩
    have e2 : nI q + (1 : Int32) = nI (q + 1) := nadd q 1
    have e3 : (10 : Int32) * nI r = nI (10 * r) := nmul 10 r
    rw [f_X9_inverseOf_l12, if_neg (by rw [nlt (by omega) (by omega)]; omega), m_digit0 hN hv (by omega) hn, Option.bind_some, vI]
    simp only [zjn]
    by_cases hd : v / 10 ^ (n - q) % 10 = t
    · rw [if_pos hd, if_pos (by rw [hd]), e3, nadd, e2]
      exact ih f _ _ (by omega) (by omega)
    · rw [if_neg hd, if_neg (by rw [neq (by omega) (by omega)]; exact hd), e2]
      exact ih f _ _ (by omega) (by omega)
theorem m_inv_l4 (hN : 10 < N) {n v : Nat} (hn : n < 10) (hv : v < 2 ^ 31) : ∀ d f t r : Nat, d < f → t + d = n + 1 → f_X9_inverseOf_l4 N (nI v) (nI n) f (nI r) (nI t) h = some (nI (vO n v d t r), h) := by
  intro d
  induction d with
  | zero =>
    intro f t r hf ht
    obtain ⟨f, rfl⟩ : ∃ m, f = m + 1 := ⟨f - 1, by omega⟩
    rw [f_X9_inverseOf_l4, if_pos (by rw [nlt (by omega) (by omega)]; omega), vO]
  | succ d ih =>
    intro f t r hf ht
    obtain ⟨f, rfl⟩ : ∃ m, f = m + 1 := ⟨f - 1, by omega⟩
    have e2 : nI t + (1 : Int32) = nI (t + 1) := nadd t 1
    rw [f_X9_inverseOf_l4, if_neg (by rw [nlt (by omega) (by omega)]; omega), e2]
    have e1 := m_inv_l12 (h := h) hN (t := t) hn hv (by omega) (fun (u2 : Int32) (h3 : zH) => f_X9_inverseOf_l4 N (nI v) (nI n) f u2 (nI (t + 1)) h3) n N 1 r (by omega) (by omega)
    refine Eq.trans e1 ?_
    exact ih f (t + 1) _ (by omega) (by omega)
theorem m_inverseOf (hN : 10 < N) {n a : Nat} (hn : inN n) (ha : a < fctN n) : f_X9_inverseOf N (nI (numN n a)) (nI n) h = some (nI (numN n (invN a)), h) := by
  have h1 := num_lt hn (Nat.lt_of_lt_of_le ha (fct_le hn))
  have h2 := inN_le hn
  have := m_inv_l4 (h := h) hN (n := n) (v := numN n a) (by omega) (by omega) n N 1 0 (by omega) (by omega)
  rw [vO_num hn ha] at this
  exact this
theorem m_isE_l (n : Nat) (hn : inN n) (k : Int32 → Int32 → zH → Option (Int32 × zH)) (hk : ∀ mask many : Nat, mask < 64 → many < 20 → k (nI mask) (nI many) h = some (b2 (Nat.beq many n && Nat.beq mask (2 ^ (n + 1) - 2)), h)) : ∀ d f mask v many : Nat, v < 10 ^ d → v < 2 ^ 31 → d < f → mask < 64 → many + d < 20 → f_X9_isElement_l21 N (nI n) k f (nI mask) (nI v) (nI many) h = some (b2 (mL n (d + 1) mask v many), h) := by
  have h2 := inN_le hn
  intro d
  induction d with
  | zero =>
    intro f mask v many hv hv2 hf hm hmm
    obtain ⟨f, rfl⟩ : ∃ m, f = m + 1 := ⟨f - 1, by omega⟩
    have hv0 : v = 0 := by simpa using hv
    subst hv0
    rw [f_X9_isElement_l21, if_pos (by decide), hk mask many hm (by omega), mL, if_pos rfl]
  | succ d ih =>
    intro f mask v many hv hv2 hf hm hmm
    obtain ⟨f, rfl⟩ : ∃ m, f = m + 1 := ⟨f - 1, by omega⟩
    have c1 : (nI v ≤ (0 : Int32)) = (v ≤ 0) := nle (b := 0) hv2 (by omega)
    have e1 : zremI (nI v) (10 : Int32) = some (nI (v % 10)) := nremI (b := 10) (by omega) (by omega) (by omega)
    have e2 : zdivI (nI v) (10 : Int32) = some (nI (v / 10)) := ndivI (b := 10) (by omega) (by omega) (by omega)
    have c2 : (nI (v % 10) < (1 : Int32)) = (v % 10 < 1) := nlt (b := 1) (by omega) (by omega)
    have e3 : nI many + (1 : Int32) = nI (many + 1) := nadd many 1
    rw [f_X9_isElement_l21, mL]
    by_cases hv0 : v = 0
    · rw [if_pos hv0, if_pos (by rw [c1]; omega)]
      exact hk mask many hm (by omega)
    · rw [if_neg hv0, if_neg (by rw [c1]; omega), e1, Option.bind_some]
      by_cases h0 : v % 10 = 0
      · rw [if_pos (Or.inl h0), if_pos (by rw [c2]; omega)]
        rfl
      · rw [if_neg (by rw [c2]; omega)]
        by_cases h1 : n < v % 10
        · rw [if_pos (Or.inr h1), if_neg (by rw [nle (by omega) (by omega)]; omega)]
          rfl
        · have e4 : nI mask ||| (1 : Int32) <<< (nI (v % 10) &&& 31) = nI (mask ||| 1 <<< (v % 10)) := by
            rw [← nor, ← nshl1 (by omega)]
            rfl
          rw [if_neg (show ¬ (v % 10 = 0 ∨ n < v % 10) by omega), if_pos (by rw [nle (by omega) (by omega)]; omega), e2, Option.bind_some, e4, e3]
          rw [Nat.pow_succ] at hv
          exact ih f _ _ _ (by omega) (by omega) (by omega) (lor_lt64 hm (shl_lt64 (by omega))) (by omega)
theorem m_isElement (hN : 10 < N) {n v : Nat} (hn : inN n) (hv : v < 2 ^ 31) : f_X9_isElement N (nI v) (nI n) h = some (b2 (mE n v), h) := by
  have h2 := inN_le hn
  have c1 : (nI v < (12 : Int32)) = (v < 12) := nlt (b := 12) hv (by omega)
  have c2 : (nI v ≤ (54321 : Int32)) = (v ≤ 54321) := nle (b := 54321) hv (by omega)
  rw [f_X9_isElement, mE]
  by_cases h0 : v < 12
  · rw [if_pos (by rw [c1]; exact h0), if_pos (Or.inl h0)]
    rfl
  · rw [if_neg (by rw [c1]; exact h0)]
    by_cases h1 : 54321 < v
    · rw [if_neg (by rw [c2]; omega), if_pos (Or.inr h1)]
      rfl
    · rw [if_pos (by rw [c2]; omega), if_neg (show ¬ (v < 12 ∨ 54321 < v) by omega)]
      refine m_isE_l (N := N) n hn _ ?_ 7 N 0 v 0 (by omega) hv (by omega) (by omega) (by omega)
      intro mask many hm hmm
      have e1 : ((1 : Int32) <<< ((nI n + (1 : Int32)) &&& 31)) - (2 : Int32) = nI (2 ^ (n + 1) - 2) := by
        rcases hn with rfl | rfl | rfl | rfl <;> decide
      have b1 : 2 ^ (n + 1) - 2 < 100 := by rcases hn with rfl | rfl | rfl | rfl <;> decide
      by_cases hq : many = n
      · rw [if_pos (by rw [hq]), e1]
        by_cases hr : mask = 2 ^ (n + 1) - 2
        · rw [if_pos (by rw [hr]), hq, hr, Nat.beq_refl, Nat.beq_refl]
          rfl
        · rw [if_neg (by rw [neq (by omega) (by omega)]; exact hr)]
          have : Nat.beq mask (2 ^ (n + 1) - 2) = false := by
            cases hb : Nat.beq mask (2 ^ (n + 1) - 2) with
            | false => rfl
            | true => exact absurd (Nat.eq_of_beq_eq_true hb) hr
          rw [this, Bool.and_false]
          rfl
      · rw [if_neg (by rw [neq (by omega) (by omega)]; exact hq)]
        have : Nat.beq many n = false := by
          cases hb : Nat.beq many n with
          | false => rfl
          | true => exact absurd (Nat.eq_of_beq_eq_true hb) hq
        rw [this, Bool.false_and]
        rfl
theorem m_isElement_neg {x : Int32} (hx : x < 0) {n : Int32} : f_X9_isElement N x n h = some (0, h) := by
  have : x < (12 : Int32) := by
    rw [Int32.lt_iff_toInt_lt] at hx ⊢
    have e0 : (0 : Int32).toInt = 0 := by decide
    have e1 : (12 : Int32).toInt = 12 := by decide
    omega
  rw [f_X9_isElement, if_pos this]
end MELT

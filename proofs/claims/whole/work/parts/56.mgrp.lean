/-! ===== the model's numbers of elements ===== -/
def okG (n e : Nat) : Bool := (List.range n).all (fun p => Nat.blt (goalN e p) n)
theorem okG2 : (List.range 2).all (okG 2) = true := by decide +kernel
theorem okG3 : (List.range 6).all (okG 3) = true := by decide +kernel
theorem okG4 : (List.range 24).all (okG 4) = true := by decide +kernel
theorem okG5 : (List.range 120).all (okG 5) = true := by decide +kernel
theorem goal_ltn {n e p : Nat} (hn : inN n) (he : e < fctN n) (hp : p < n) : goalN e p < n := by
  have h : okG n e = true := by
    rcases hn with rfl | rfl | rfl | rfl
    · exact all_of okG2 he
    · exact all_of okG3 he
    · exact all_of okG4 he
    · exact all_of okG5 he
  simpa only [Nat.blt_eq] using all_of h hp
theorem inN_le {n : Nat} (hn : inN n) : 2 ≤ n ∧ n ≤ 5 := by rcases hn with rfl | rfl | rfl | rfl <;> omega
theorem num_dig {n e p : Nat} (hn : inN n) (he : e < fctN n) (hp : 0 < p) (hpn : p ≤ n) : numN n e / 10 ^ (n - p) % 10 = goalN e (p - 1) + 1 := by
  have he' := Nat.lt_of_lt_of_le he (fct_le hn)
  have g0 := goal_lt he' (p := 0) (by omega)
  have g1 := goal_lt he' (p := 1) (by omega)
  have g2 := goal_lt he' (p := 2) (by omega)
  have g3 := goal_lt he' (p := 3) (by omega)
  have g4 := goal_lt he' (p := 4) (by omega)
  rcases hn with rfl | rfl | rfl | rfl
  · rcases (show p = 1 ∨ p = 2 by omega) with rfl | rfl <;> simp [numN] <;> omega
  · rcases (show p = 1 ∨ p = 2 ∨ p = 3 by omega) with rfl | rfl | rfl <;> simp [numN] <;> omega
  · rcases (show p = 1 ∨ p = 2 ∨ p = 3 ∨ p = 4 by omega) with rfl | rfl | rfl | rfl <;> simp [numN] <;> omega
  · rcases (show p = 1 ∨ p = 2 ∨ p = 3 ∨ p = 4 ∨ p = 5 by omega) with rfl | rfl | rfl | rfl | rfl <;> simp [numN] <;> omega
section MGRP
variable {h : zH} {N : Nat}
theorem m_digit_l (p : Nat) (k : Int32 → zH → Option (Int32 × zH)) : ∀ d v f : Nat, d < f → v < 2 ^ 31 → p + d < 2 ^ 31 → f_X9_digit_l5 N (nI p) k f (nI v) (nI (p + d)) h = k (nI (v / 10 ^ d)) h := by
  intro d
  induction d with
  | zero =>
    intro v f hf hv hp
    obtain ⟨f, rfl⟩ : ∃ m, f = m + 1 := ⟨f - 1, by omega⟩
    rw [f_X9_digit_l5, if_pos (by rw [nle (by omega) (by omega)]; omega), Nat.pow_zero, Nat.div_one]
  | succ d ih =>
    intro v f hf hv hp
    obtain ⟨f, rfl⟩ : ∃ m, f = m + 1 := ⟨f - 1, by omega⟩
    have e2 : zdivI (nI v) (10 : Int32) = some (nI (v / 10)) := ndivI (b := 10) (by omega) (by omega) (by omega)
    rw [f_X9_digit_l5, if_neg (by rw [nle (by omega) (by omega)]; omega), e2, Option.bind_some, ← Nat.add_assoc, npredL, ih _ _ (by omega) (by omega) (by omega), Nat.pow_succ, Nat.mul_comm (10 ^ d), Nat.div_div_eq_div_mul]
theorem m_digit0 (hN : 10 < N) {v p n : Nat} (hv : v < 2 ^ 31) (hp : p ≤ n) (hn : n < 10) : f_X9_digit N (nI v) (nI p) (nI n) h = some (nI (v / 10 ^ (n - p) % 10), h) := by
  have h1 := m_digit_l (N := N) (h := h) p (fun (u2 : Int32) (h3 : zH) => (zremI u2 (10 : Int32)).bind fun x4 => some (x4, h3)) (n - p) v N (by omega) hv (by omega)
  rw [show p + (n - p) = n by omega] at h1
  have h2 : v / 10 ^ (n - p) < 2 ^ 31 := Nat.lt_of_le_of_lt (Nat.div_le_self _ _) hv
  have e1 : zremI (nI (v / 10 ^ (n - p))) (10 : Int32) = some (nI (v / 10 ^ (n - p) % 10)) := nremI (b := 10) (by omega) (by omega) (by omega)
  rw [f_X9_digit, h1, e1, Option.bind_some]
theorem m_digit (hN : 10 < N) {n e p : Nat} (hn : inN n) (he : e < fctN n) (hp : 0 < p) (hpn : p ≤ n) : f_X9_digit N (nI (numN n e)) (nI p) (nI n) h = some (nI (goalN e (p - 1) + 1), h) := by
  have h1 := num_lt hn (Nat.lt_of_lt_of_le he (fct_le hn))
  have h2 := inN_le hn
  rw [m_digit0 hN (by omega) hpn (by omega), num_dig hn he hp hpn]
theorem m_neutral {n : Nat} (hn : inN n) : f_X9_neutral N (nI n) h = some (nI (numN n 0), h) := by
  rcases hn with rfl | rfl | rfl | rfl <;> rfl
theorem m_times (hN : 10 < N) {n a b : Nat} (hn : inN n) (ha : a < fctN n) (hb : b < fctN n) : f_X9_times N (nI (numN n a)) (nI (numN n b)) (nI n) h = some (nI (numN n (mulN a b)), h) := by
  have ha' := Nat.lt_of_lt_of_le ha (fct_le hn)
  have hb' := Nat.lt_of_lt_of_le hb (fct_le hn)
  have hm : ∀ p, p < 5 → goalN (mulN a b) p = goalN b (goalN a p) := fun p hp => mul_goal ha' hb' hp
  have q : ∀ p, p < n → goalN a p < n := fun p hp => goal_ltn hn ha hp
  have q2 : ∀ p, p < n → goalN b (goalN a p) < 5 := fun p hp => goal_lt hb' (by have := q p hp; have := inN_le hn; omega)
  obtain ⟨m, rfl⟩ : ∃ m, N = m + 10 := ⟨N - 10, by omega⟩
  rcases hn with rfl | rfl | rfl | rfl
  · have q0 := q 0 (by omega)
    have q1 := q 1 (by omega)
    simp (disch := omega) only [f_X9_times, f_X9_times_l5, nlit, nlt, nadd, nmul, if_pos, if_neg, m_digit (N := m + 10) hN (n := 2) (Or.inl rfl) ha, m_digit (N := m + 10) hN (n := 2) (Or.inl rfl) hb, Option.bind_some, Nat.reduceAdd, Nat.reduceSub, Nat.add_sub_cancel]
    rw [show ∀ e, numN 2 e = 10 * (goalN e 0 + 1) + (goalN e 1 + 1) from fun _ => rfl, hm 0 (by omega), hm 1 (by omega)]
    congr 3
    omega
  · have q0 := q 0 (by omega)
    have q1 := q 1 (by omega)
    have q2 := q 2 (by omega)
    simp (disch := omega) only [f_X9_times, f_X9_times_l5, nlit, nlt, nadd, nmul, if_pos, if_neg, m_digit (N := m + 10) hN (n := 3) (Or.inr (Or.inl rfl)) ha, m_digit (N := m + 10) hN (n := 3) (Or.inr (Or.inl rfl)) hb, Option.bind_some, Nat.reduceAdd, Nat.reduceSub, Nat.add_sub_cancel]
    rw [show ∀ e, numN 3 e = 10 * (10 * (goalN e 0 + 1) + (goalN e 1 + 1)) + (goalN e 2 + 1) from fun _ => rfl, hm 0 (by omega), hm 1 (by omega), hm 2 (by omega)]
    congr 3
    omega
  · have q0 := q 0 (by omega)
    have q1 := q 1 (by omega)
    have q2 := q 2 (by omega)
    have q3 := q 3 (by omega)
    simp (disch := omega) only [f_X9_times, f_X9_times_l5, nlit, nlt, nadd, nmul, if_pos, if_neg, m_digit (N := m + 10) hN (n := 4) (Or.inr (Or.inr (Or.inl rfl))) ha, m_digit (N := m + 10) hN (n := 4) (Or.inr (Or.inr (Or.inl rfl))) hb, Option.bind_some, Nat.reduceAdd, Nat.reduceSub, Nat.add_sub_cancel]
    rw [show ∀ e, numN 4 e = 10 * (10 * (10 * (goalN e 0 + 1) + (goalN e 1 + 1)) + (goalN e 2 + 1)) + (goalN e 3 + 1) from fun _ => rfl, hm 0 (by omega), hm 1 (by omega), hm 2 (by omega), hm 3 (by omega)]
    congr 3
    omega
  · have q0 := q 0 (by omega)
    have q1 := q 1 (by omega)
    have q2 := q 2 (by omega)
    have q3 := q 3 (by omega)
    have q4 := q 4 (by omega)
    simp (disch := omega) only [f_X9_times, f_X9_times_l5, nlit, nlt, nadd, nmul, if_pos, if_neg, m_digit (N := m + 10) hN (n := 5) (Or.inr (Or.inr (Or.inr rfl))) ha, m_digit (N := m + 10) hN (n := 5) (Or.inr (Or.inr (Or.inr rfl))) hb, Option.bind_some, Nat.reduceAdd, Nat.reduceSub, Nat.add_sub_cancel]
    rw [show ∀ e, numN 5 e = 10 * (10 * (10 * (10 * (goalN e 0 + 1) + (goalN e 1 + 1)) + (goalN e 2 + 1)) + (goalN e 3 + 1)) + (goalN e 4 + 1) from fun _ => rfl, hm 0 (by omega), hm 1 (by omega), hm 2 (by omega), hm 3 (by omega), hm 4 (by omega)]
    congr 3
    omega
def okJ (n e : Nat) : Bool := match eltN n (numN n e) with
  | some f => Nat.beq f e
  | none => false
theorem okJ2 : (List.range 2).all (okJ 2) = true := by decide +kernel
theorem okJ3 : (List.range 6).all (okJ 3) = true := by decide +kernel
theorem okJ4 : (List.range 24).all (okJ 4) = true := by decide +kernel
theorem okJ5 : (List.range 120).all (okJ 5) = true := by decide +kernel
theorem elt_num {n e : Nat} (hn : inN n) (he : e < fctN n) : eltN n (numN n e) = some e := by
  have h : okJ n e = true := by
    rcases hn with rfl | rfl | rfl | rfl
    · exact all_of okJ2 he
    · exact all_of okJ3 he
    · exact all_of okJ4 he
    · exact all_of okJ5 he
  unfold okJ at h
  split at h
  · next f hf => rw [hf, Nat.eq_of_beq_eq_true h]
  · cases h
theorem num_inj {n a b : Nat} (hn : inN n) (ha : a < fctN n) (hb : b < fctN n) : numN n a = numN n b ↔ a = b := by
  constructor
  · intro h
    have := elt_num hn ha
    rw [h, elt_num hn hb] at this
    exact (Option.some.inj this).symm
  · intro h; rw [h]
theorem pow_in {n a : Nat} (hn : inN n) (ha : a < fctN n) : ∀ k, powN a k < fctN n
  | 0 => Nat.lt_trans Nat.zero_lt_one (fct_pos hn)
  | k + 1 => mul_in hn (pow_in hn ha k) ha
theorem m_orderOf (hN : 10 < N) {n a : Nat} (hn : inN n) (ha : a < fctN n) : f_X9_orderOf N (nI (numN n a)) (nI n) h = some (nI (ordN a), h) := by
  have ha' := Nat.lt_of_lt_of_le ha (fct_le hn)
  obtain ⟨o1, o2, o3, o4, o5⟩ := okP_of ha'
  have key : ∀ (j f i : Nat), i + j = ordN a → 0 < i → j < f → f_X9_orderOf_l4 N (nI (numN n a)) (nI n) f (nI i) (nI (numN n (powN a i))) h = some (nI (ordN a), h) := by
    intro j
    induction j with
    | zero =>
      intro f i hi h0 hf
      obtain ⟨f, rfl⟩ : ∃ m, f = m + 1 := ⟨f - 1, by omega⟩
      have e : powN a i = 0 := by rw [show i = ordN a by omega]; exact o3
      rw [f_X9_orderOf_l4, m_neutral hn, Option.bind_some, e, if_pos rfl, show i = ordN a by omega]
    | succ j ih =>
      intro f i hi h0 hf
      obtain ⟨f, rfl⟩ : ∃ m, f = m + 1 := ⟨f - 1, by omega⟩
      have e : powN a i ≠ 0 := o4 i (by omega) (by omega)
      have p1 := pow_in hn ha i
      have p0 : 0 < fctN n := Nat.lt_trans (by decide) (fct_pos hn)
      have l1 := num_lt hn (Nat.lt_of_lt_of_le p1 (fct_le hn))
      have l0 := num_lt hn (e := 0) (by omega)
      have e2 : nI i + (1 : Int32) = nI (i + 1) := nadd i 1
      rw [f_X9_orderOf_l4, m_neutral hn, Option.bind_some, if_neg (by rw [neq (by omega) (by omega), num_inj hn p1 p0]; exact e), m_times hN hn p1 ha, Option.bind_some, e2]
      exact ih f (i + 1) (by omega) (by omega) (by omega)
  have h1 : powN a 1 = a := by show mulN 0 a = a; exact zero_mul' ha'
  have := key (ordN a - 1) N 1 (by omega) (by omega) (by omega)
  rw [h1] at this
  exact this
end MGRP

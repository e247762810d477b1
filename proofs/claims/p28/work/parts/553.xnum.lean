theorem okN2 : (List.range 2).all (fun e => Nat.beq (goalN e 2) 2 && Nat.beq (goalN e 3) 3 && Nat.beq (goalN e 4) 4) = true := by decide +kernel
theorem okN3 : (List.range 6).all (fun e => Nat.beq (goalN e 3) 3 && Nat.beq (goalN e 4) 4) = true := by decide +kernel
theorem okN4 : (List.range 24).all (fun e => Nat.beq (goalN e 4) 4) = true := by decide +kernel
def inN (n : Nat) : Prop := n = 2 ∨ n = 3 ∨ n = 4 ∨ n = 5
theorem fct_le {n : Nat} (hn : inN n) : fctN n ≤ 120 := by rcases hn with rfl | rfl | rfl | rfl <;> decide
theorem fct_pos {n : Nat} (hn : inN n) : 1 < fctN n := by rcases hn with rfl | rfl | rfl | rfl <;> decide
/-- an element of the n points leaves the others -/
theorem goal_id {n e p : Nat} (hn : inN n) (he : e < fctN n) (hp : n ≤ p) (hp5 : p < 5) : goalN e p = p := by
  rcases hn with rfl | rfl | rfl | rfl
  · have h := all_of okN2 he
    simp only [Nat.beq_eq, Bool.and_eq_true] at h
    rcases (show p = 2 ∨ p = 3 ∨ p = 4 by omega) with rfl | rfl | rfl
    · exact h.1.1
    · exact h.1.2
    · exact h.2
  · have h := all_of okN3 he
    simp only [Nat.beq_eq, Bool.and_eq_true] at h
    rcases (show p = 3 ∨ p = 4 by omega) with rfl | rfl
    · exact h.1
    · exact h.2
  · have h := all_of okN4 he
    simp only [Nat.beq_eq] at h
    rw [show p = 4 by omega]
    exact h
  · omega
theorem mul_in {n a b : Nat} (hn : inN n) (ha : a < fctN n) (hb : b < fctN n) : mulN a b < fctN n := by
  rcases hn with rfl | rfl | rfl | rfl
  · have h := all_of (all_of okS2 ha) hb
    simpa only [okS, Nat.blt_eq] using h
  · have h := all_of (all_of okS3 ha) hb
    simpa only [okS, Nat.blt_eq] using h
  · have h := all_of (all_of okS4 ha) hb
    simpa only [okS, Nat.blt_eq] using h
  · exact mul_lt ha hb
def okI (n e : Nat) : Bool := Nat.blt (invN e) (fctN n)
theorem okI2 : (List.range 2).all (okI 2) = true := by decide +kernel
theorem okI3 : (List.range 6).all (okI 3) = true := by decide +kernel
theorem okI4 : (List.range 24).all (okI 4) = true := by decide +kernel
theorem inv_in {n a : Nat} (hn : inN n) (ha : a < fctN n) : invN a < fctN n := by
  rcases hn with rfl | rfl | rfl | rfl
  · simpa only [okI, Nat.blt_eq] using all_of okI2 ha
  · simpa only [okI, Nat.blt_eq] using all_of okI3 ha
  · simpa only [okI, Nat.blt_eq] using all_of okI4 ha
  · exact inv_lt ha
section XNUM
variable {h : zH} {g N : Nat}
theorem x_count (hN : 10 < N) {n : Nat} (hn : inN n) : f_X2_count N g (nI n) h = some (nI (fctN n), h) := by
  obtain ⟨m, rfl⟩ : ∃ m, N = m + 10 := ⟨N - 10, by omega⟩
  rcases hn with rfl | rfl | rfl | rfl <;> simp (disch := omega) only [f_X2_count, f_X2_count_l4, nlit, nlt, nadd, nmul, if_pos, if_neg] <;> rfl
theorem num_lt {n e : Nat} (hn : inN n) (he : e < 120) : numN n e < 100000 := by
  have g0 := goal_lt he (p := 0) (by omega)
  have g1 := goal_lt he (p := 1) (by omega)
  have g2 := goal_lt he (p := 2) (by omega)
  have g3 := goal_lt he (p := 3) (by omega)
  have g4 := goal_lt he (p := 4) (by omega)
  rcases hn with rfl | rfl | rfl | rfl <;> simp only [numN] <;> simp <;> omega
theorem x_toNumber (hG : GrpAt h g) (hN : 10 < N) {n e : Nat} (hn : inN n) (he : e < 120) : f_X2_toNumber N g (nI e) (nI n) h = some (nI (numN n e), h) := by
  obtain ⟨m, rfl⟩ : ∃ m, N = m + 10 := ⟨N - 10, by omega⟩
  have o := fun (F : Option (Int32 × zH)) => onO_of' (F := F) hG.1
  have g0 := goal_lt he (p := 0) (by omega)
  have g1 := goal_lt he (p := 1) (by omega)
  have g2 := goal_lt he (p := 2) (by omega)
  have g3 := goal_lt he (p := 3) (by omega)
  have g4 := goal_lt he (p := 4) (by omega)
  rcases hn with rfl | rfl | rfl | rfl
  · simp (disch := omega) only [f_X2_toNumber, f_X2_toNumber_l5, nlit, nle, nadd, nmul, if_pos, if_neg, o, x_goal hG, Option.bind_some, Nat.reduceAdd, Nat.zero_add]
    rw [show numN 2 e = 10 * (goalN e 0 + 1) + (goalN e 1 + 1) from rfl]
    congr 3; omega
  · simp (disch := omega) only [f_X2_toNumber, f_X2_toNumber_l5, nlit, nle, nadd, nmul, if_pos, if_neg, o, x_goal hG, Option.bind_some, Nat.reduceAdd, Nat.zero_add]
    rw [show numN 3 e = 10 * (10 * (goalN e 0 + 1) + (goalN e 1 + 1)) + (goalN e 2 + 1) from rfl]
    congr 3; omega
  · simp (disch := omega) only [f_X2_toNumber, f_X2_toNumber_l5, nlit, nle, nadd, nmul, if_pos, if_neg, o, x_goal hG, Option.bind_some, Nat.reduceAdd, Nat.zero_add]
    rw [show numN 4 e = 10 * (10 * (10 * (goalN e 0 + 1) + (goalN e 1 + 1)) + (goalN e 2 + 1)) + (goalN e 3 + 1) from rfl]
    congr 3; omega
  · simp (disch := omega) only [f_X2_toNumber, f_X2_toNumber_l5, nlit, nle, nadd, nmul, if_pos, if_neg, o, x_goal hG, Option.bind_some, Nat.reduceAdd, Nat.zero_add]
    rw [show numN 5 e = 10 * (10 * (10 * (10 * (goalN e 0 + 1) + (goalN e 1 + 1)) + (goalN e 2 + 1)) + (goalN e 3 + 1)) + (goalN e 4 + 1) from rfl]
    congr 3; omega
end XNUM

def inN (n : Nat) : Prop := n = 2 ∨ n = 3 ∨ n = 4 ∨ n = 5
theorem fct_le {n : Nat} (hn : inN n) : fctN n ≤ 120 := by rcases hn with rfl | rfl | rfl | rfl <;> decide
theorem fct_pos {n : Nat} (hn : inN n) : 1 < fctN n := by rcases hn with rfl | rfl | rfl | rfl <;> decide
theorem mul_in {n a b : Nat} (hn : inN n) (ha : a < fctN n) (hb : b < fctN n) : mulN a b < fctN n := by
  rcases hn with rfl | rfl | rfl | rfl
  · have h := all_of (all_of okS2 ha) hb
    simpa only [okS, Nat.blt_eq] using h
  · have h := all_of (all_of okS3 ha) hb
    simpa only [okS, Nat.blt_eq] using h
  · have h := all_of (all_of okS4 ha) hb
    simpa only [okS, Nat.blt_eq] using h
  · exact mul_lt ha hb
section XNUM
variable {h : zH} {g N : Nat}
theorem x_toNumber (hG : GrpAt h g) (hN : 10 < N) {n e : Nat} (hn : inN n) (he : e < 120) : f_X2_toNumber N g (nI e) (nI n) h = some (nI (numN n e), h) := by
  obtain ⟨m, rfl⟩ : ∃ m, N = m + 10 := ⟨N - 10, by omega⟩
  have o := fun (F : Option (Int32 × zH)) => onO_of' (F := F) hG.1
  have g0 := goal_lt he (p := 0) (by omega)
  have g1 := goal_lt he (p := 1) (by omega)
  have g2 := goal_lt he (p := 2) (by omega)
  have g3 := goal_lt he (p := 3) (by omega)
  have g4 := goal_lt he (p := 4) (by omega)
  rcases hn with rfl | rfl | rfl | rfl
  · simp (disch := omega) only [f_X2_toNumber, f_X2_toNumber_l5, nlit, nle, nadd, nmul, if_pos, if_neg, o, x_goal hG, Option.bind_some, Nat.reduceAdd, Nat.zero_add]
    rw [show numN 2 e = 10 * (goalN e 0 + 1) + (goalN e 1 + 1) from rfl]
    congr 3; omega
  · simp (disch := omega) only [f_X2_toNumber, f_X2_toNumber_l5, nlit, nle, nadd, nmul, if_pos, if_neg, o, x_goal hG, Option.bind_some, Nat.reduceAdd, Nat.zero_add]
    rw [show numN 3 e = 10 * (10 * (goalN e 0 + 1) + (goalN e 1 + 1)) + (goalN e 2 + 1) from rfl]
    congr 3; omega
  · simp (disch := omega) only [f_X2_toNumber, f_X2_toNumber_l5, nlit, nle, nadd, nmul, if_pos, if_neg, o, x_goal hG, Option.bind_some, Nat.reduceAdd, Nat.zero_add]
    rw [show numN 4 e = 10 * (10 * (10 * (goalN e 0 + 1) + (goalN e 1 + 1)) + (goalN e 2 + 1)) + (goalN e 3 + 1) from rfl]
    congr 3; omega
  · simp (disch := omega) only [f_X2_toNumber, f_X2_toNumber_l5, nlit, nle, nadd, nmul, if_pos, if_neg, o, x_goal hG, Option.bind_some, Nat.reduceAdd, Nat.zero_add]
    rw [show numN 5 e = 10 * (10 * (10 * (10 * (goalN e 0 + 1) + (goalN e 1 + 1)) + (goalN e 2 + 1)) + (goalN e 3 + 1)) + (goalN e 4 + 1) from rfl]
    congr 3; omega
end XNUM

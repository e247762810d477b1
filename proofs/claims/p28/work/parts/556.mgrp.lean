def okG (n e : Nat) : Bool := (List.range n).all (fun p => Nat.blt (goalN e p) n)
theorem okG2 : (List.range 2).all (okG 2) = true := by decide +kernel
theorem okG3 : (List.range 6).all (okG 3) = true := by decide +kernel
theorem okG4 : (List.range 24).all (okG 4) = true := by decide +kernel
theorem okG5 : (List.range 120).all (okG 5) = true := by decide +kernel
theorem goal_ltn {n e p : Nat} (hn : inN n) (he : e < fctN n) (hp : p < n) : goalN e p < n := by
  have h : okG n e = true := by
    rcases hn with rfl | rfl | rfl | rfl
    · exact all_of okG2 he
    · exact all_of okG3 he
    · exact all_of okG4 he
    · exact all_of okG5 he
  simpa only [Nat.blt_eq] using all_of h hp
theorem inN_le {n : Nat} (hn : inN n) : 2 ≤ n ∧ n ≤ 5 := by rcases hn with rfl | rfl | rfl | rfl <;> omega
theorem num_dig {n e p : Nat} (hn : inN n) (he : e < fctN n) (hp : 0 < p) (hpn : p ≤ n) : numN n e / 10 ^ (n - p) % 10 = goalN e (p - 1) + 1 := by
  have he' := Nat.lt_of_lt_of_le he (fct_le hn)
  have g0 := goal_lt he' (p := 0) (by omega)
  have g1 := goal_lt he' (p := 1) (by omega)
  have g2 := goal_lt he' (p := 2) (by omega)
  have g3 := goal_lt he' (p := 3) (by omega)
  have g4 := goal_lt he' (p := 4) (by omega)
  rcases hn with rfl | rfl | rfl | rfl
  · rcases (show p = 1 ∨ p = 2 by omega) with rfl | rfl <;> simp [numN] <;> omega
  · rcases (show p = 1 ∨ p = 2 ∨ p = 3 by omega) with rfl | rfl | rfl <;> simp [numN] <;> omega
  · rcases (show p = 1 ∨ p = 2 ∨ p = 3 ∨ p = 4 by omega) with rfl | rfl | rfl | rfl <;> simp [numN] <;> omega
  · rcases (show p = 1 ∨ p = 2 ∨ p = 3 ∨ p = 4 ∨ p = 5 by omega) with rfl | rfl | rfl | rfl | rfl <;> simp [numN] <;> omega
section MGRP
variable {h : zH} {N : Nat}
def okJ (n e : Nat) : Bool := match eltN n (numN n e) with
  | some f => Nat.beq f e
  | none => false
theorem okJ2 : (List.range 2).all (okJ 2) = true := by decide +kernel
theorem okJ3 : (List.range 6).all (okJ 3) = true := by decide +kernel
theorem okJ4 : (List.range 24).all (okJ 4) = true := by decide +kernel
theorem okJ5 : (List.range 120).all (okJ 5) = true := by decide +kernel
theorem elt_num {n e : Nat} (hn : inN n) (he : e < fctN n) : eltN n (numN n e) = some e := by
  have h : okJ n e = true := by
    rcases hn with rfl | rfl | rfl | rfl
    · exact all_of okJ2 he
    · exact all_of okJ3 he
    · exact all_of okJ4 he
    · exact all_of okJ5 he
  unfold okJ at h
  split at h
  · next f hf => rw [hf, Nat.eq_of_beq_eq_true h]
  · cases h
theorem num_inj {n a b : Nat} (hn : inN n) (ha : a < fctN n) (hb : b < fctN n) : numN n a = numN n b ↔ a = b := by
  constructor
  · intro h
    have := elt_num hn ha
    rw [h, elt_num hn hb] at this
    exact (Option.some.inj this).symm
  · intro h; rw [h]
theorem pow_in {n a : Nat} (hn : inN n) (ha : a < fctN n) : ∀ k, powN a k < fctN n
  | 0 => Nat.lt_trans Nat.zero_lt_one (fct_pos hn)
  | k + 1 => mul_in hn (pow_in hn ha k) ha
end MGRP

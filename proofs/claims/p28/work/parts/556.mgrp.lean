theorem inN_le {n : Nat} (hn : inN n) : 2 ≤ n ∧ n ≤ 5 := by rcases hn with rfl | rfl | rfl | rfl <;> omega
section MGRP
variable {h : zH} {N : Nat}
def okJ (n e : Nat) : Bool := match eltN n (numN n e) with
  | some f => Nat.beq f e
  | none => false
theorem okJ2 : (List.range 2).all (okJ 2) = true := by decide +kernel
theorem okJ3 : (List.range 6).all (okJ 3) = true := by decide +kernel
theorem okJ4 : (List.range 24).all (okJ 4) = true := by decide +kernel
theorem okJ5 : (List.range 120).all (okJ 5) = true := by decide +kernel
theorem elt_num {n e : Nat} (hn : inN n) (he : e < fctN n) : eltN n (numN n e) = some e := by
  have h : okJ n e = true := by
    rcases hn with rfl | rfl | rfl | rfl
    · exact all_of okJ2 he
    · exact all_of okJ3 he
    · exact all_of okJ4 he
    · exact all_of okJ5 he
  unfold okJ at h
  split at h
  · next f hf => rw [hf, Nat.eq_of_beq_eq_true h]
  · cases h
end MGRP

section M79
variable {h : zH} {m N : Nat} {S B D E : Nat → Int32} {H : Nat → Nat → Int32} {J J' : Nat → Int64} {L U Z W : Nat → Int32} {d : Nat → Nat}
theorem eltI_num {n e : Nat} (hn : inN n) (he : e < fctN n) : (eltI n (nI (numN n e))).isSome = true := by
  have hl := num_lt hn (Nat.lt_of_lt_of_le he (fct_le hn))
  rw [eltI_nI (by omega), elt_num hn he]
  rfl
end M79

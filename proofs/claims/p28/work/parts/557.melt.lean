theorem i32_cases (x : Int32) : x < 0 ∨ ∃ v : Nat, v < 2 ^ 31 ∧ x = nI v := by
  by_cases h : x < 0
  · exact Or.inl h
  · refine Or.inr ⟨x.toInt.toNat, ?_, ?_⟩
    · have := Int32.toInt_lt x
      omega
    · have h1 : ¬ x.toInt < 0 := fun h2 => h (Int32.lt_iff_toInt_lt.mpr h2)
      apply Int32.toInt_inj.mp
      have h2 := Int32.toInt_lt x
      have h3 : (nI x.toInt.toNat).toInt = (x.toInt.toNat : Int) := nI_toInt (by omega)
      rw [h3]
      omega
section MELT
variable {h : zH} {N : Nat}
end MELT

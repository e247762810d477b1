def vI (n v t : Nat) : Nat → Nat → Nat → Nat
  | 0, _, r => r
  | d + 1, k, r => vI n v t d (k + 1) (if v / 10 ^ (n - k) % 10 = t then 10 * r + k else r)
def vO (n v : Nat) : Nat → Nat → Nat → Nat
  | 0, _, r => r
  | d + 1, t, r => vO n v d (t + 1) (vI n v t n 1 r)
def okV' (n e : Nat) : Bool := Nat.beq (vO n (numN n e) n 1 0) (numN n (invN e))
theorem okV'2 : (List.range 2).all (okV' 2) = true := by decide +kernel
theorem okV'3 : (List.range 6).all (okV' 3) = true := by decide +kernel
theorem okV'4 : (List.range 24).all (okV' 4) = true := by decide +kernel
theorem okV'5 : (List.range 120).all (okV' 5) = true := by decide +kernel
theorem vO_num {n e : Nat} (hn : inN n) (he : e < fctN n) : vO n (numN n e) n 1 0 = numN n (invN e) := by
  have h : okV' n e = true := by
    rcases hn with rfl | rfl | rfl | rfl
    · exact all_of okV'2 he
    · exact all_of okV'3 he
    · exact all_of okV'4 he
    · exact all_of okV'5 he
  exact Nat.eq_of_beq_eq_true h
theorem i32_cases (x : Int32) : x < 0 ∨ ∃ v : Nat, v < 2 ^ 31 ∧ x = nI v := by
  by_cases h : x < 0
  · exact Or.inl h
  · refine Or.inr ⟨x.toInt.toNat, ?_, ?_⟩
    · have := Int32.toInt_lt x
      omega
    · have h1 : ¬ x.toInt < 0 := fun h2 => h (Int32.lt_iff_toInt_lt.mpr h2)
      apply Int32.toInt_inj.mp
      have h2 := Int32.toInt_lt x
      have h3 : (nI x.toInt.toNat).toInt = (x.toInt.toNat : Int) := nI_toInt (by omega)
      rw [h3]
      omega
theorem lor_lt64 {a b : Nat} (ha : a < 64) (hb : b < 64) : a ||| b < 64 := Nat.or_lt_two_pow (n := 6) ha hb
theorem shl_lt64 {g : Nat} (hg : g < 6) : 1 <<< g < 64 := by
  rcases (show g = 0 ∨ g = 1 ∨ g = 2 ∨ g = 3 ∨ g = 4 ∨ g = 5 by omega) with rfl | rfl | rfl | rfl | rfl | rfl <;> decide
section MELT
variable {h : zH} {N : Nat}
end MELT

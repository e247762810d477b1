theorem zth_of {α β : Type} {r : α ⊕ Nat} {x : α} {A : α → Option β} {B : Nat → Option β} {w : Option β} (hr : r = .inl x) (h : A x = w) : zth r A B = w := by
  subst hr
  exact h
theorem and31 (x : Int32) : ∃ k, k < 32 ∧ x &&& 31 = nI k := by
  refine ⟨ux (x &&& 31), ?_, ?_⟩
  · unfold ux
    rw [Int32.toUInt32_and, UInt32.toNat_and]
    have e1 : (Int32.toUInt32 31).toNat = 2 ^ 5 - 1 := by decide
    rw [e1, Nat.and_two_pow_sub_one_eq_mod]
    exact Nat.mod_lt _ (by omega)
  · have h : ux (x &&& 31) < 2 ^ 32 := UInt32.toNat_lt _
    exact ux_inj (ux_nI h).symm
section M99981
variable {b0 N M0 j L : Nat} {h : zH} {xs : Nat → Int32}
end M99981

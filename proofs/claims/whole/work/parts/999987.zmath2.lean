/-! ===== the pure statement ===== -/
theorem z_math (L : Nat) (hL : L ≤ 3072) (xs : Nat → Int32) (b0 : Nat) : ∃ (N : Nat) (h' : zH), f_L_law N L xs (b0, 0, fun _ => none) = some (.inl 1, h') ∧ hS h' ≤ b0 + 601024 ∧ hN h' ≤ 7293034 := z_math_of (fun b0 N hN h s x hW => PR_load hN h s x hW) L hL xs b0

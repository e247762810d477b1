theorem cpI_of' {h : zH} {q a n0 n1 s : Nat} {f g : Nat → Int32} (h0 : hM h q = some (.inl (0, n0, .inl f))) (h1 : hM h a = some (.inl (0, n1, .inl g))) (hs0 : s ≤ n0) (hs1 : s ≤ n1) (hs : s < 2 ^ 31) : cpI h q (nI 0) a (nI 0) (nI s) = some (hPut h a (.inl (0, n1, .inl (va_cpy f g 0 0 s)))) := by
  unfold cpI
  rw [h0, h1]
  simp only [nI_clamp (show (0 : Nat) < 2 ^ 31 by omega), nI_clamp hs]
  rw [if_pos ⟨trivial, trivial, nI_nn (by omega), nI_nn (by omega), nI_nn hs, by omega, by omega⟩]
theorem va_cpy0 (f g : Nat → Int32) (s j : Nat) : va_cpy f g 0 0 s j = if j < s then f j else g j := by
  simp [va_cpy]

section M9998
variable {b0 N M0 j L : Nat} {h : zH} {s : St} {th : Int32} {xs : Nat → Int32}
theorem o9 {β : Type} {F : Option β} {h : zH} (hM : WMv b0 h th s) : onO 9 (b0 + 395) h F = F := by
  obtain ⟨d, K, t, ⟨q, hd, hK, ht⟩, ea, z, B⟩ := s
  obtain ⟨S, B1, E, H, J, L, U, Z, W, e0, -⟩ := hM
  rw [← e0]
  exact onO_ms
end M9998

theorem bind_of {α β : Type} {x : Option α} {a : α} {f : α → Option β} {w : Option β} (hx : x = some a) (hf : f a = w) : x.bind f = w := by
  rw [hx]
  exact hf
theorem zjn_of {α β : Type} {J : α} {B : α → Option β} {w : Option β} (h : B J = w) : zjn J B = w := h
def OutAt (b0 : Nat) (h : zH) : Prop := ∃ f : Nat → Int64, hM h (b0 + 413) = some (.inl (1, 1, .inr (.inl f)))
section M9998
variable {b0 N M0 j L : Nat} {h : zH} {s : St} {th : Int32} {xs : Nat → Int32}
theorem WC_x {h h' : zH} {s : St} (hW : WC b0 h s) (hS1 : hS h ≤ hS h') (hf : ∀ x, x < b0 + 395 ∨ b0 + 395 ≤ x → hM h' x = hM h x) : WC b0 h' s := WC_sim hW hS1 (fun x hx _ => Or.inl (hf x hx))
theorem o9 {β : Type} {F : Option β} {h : zH} (hM : WMv b0 h th s) : onO 9 (b0 + 395) h F = F := by
  obtain ⟨d, K, t, ⟨q, hd, hK, ht⟩, ea, z, B⟩ := s
  obtain ⟨S, B1, E, H, J, L, U, Z, W, e0, -⟩ := hM
  rw [← e0]
  exact onO_ms
theorem ld_S {k : Nat} (hk : k < L) (hL : L ≤ 3072) : ldS L xs (nI k) = some (xs k) := by
  unfold ldS
  rw [nI_clamp (by omega), if_pos ⟨nI_nn (by omega), hk⟩]
theorem law_cond {i : Nat} (hL : L ≤ 3072) (hi : i ≤ 4000) : (nI L - (6 : Int32) < nI i) ↔ L < i + 6 := by
  rw [Int32.lt_iff_toInt_lt, Int32.toInt_sub, nI_toInt (by omega), nI_toInt (by omega)]
  have e6 : (6 : Int32).toInt = 6 := by decide
  rw [e6, Int.bmod_eq_of_le (by omega) (by omega)]
  omega
end M9998

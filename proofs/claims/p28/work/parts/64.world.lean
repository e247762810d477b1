/-! ===== the class's world beside the law's writing ===== -/
section M64
variable {M W : Nat → Prop} {h h' h1 : zH} {c m b0 N K : Nat} {d t : Nat → Nat}
/-- W names no cell of a price rule -/
def WOK (h : zH) (W : Nat → Prop) : Prop := ∀ y, y < hS h → W y → (∀ fs, hM h y ≠ some (.inr (5, fs))) ∧ (∀ σ : Nat → Int64, hM h y ≠ some (.inl (1, 11, .inr (.inl σ)))) ∧ ∀ (n : Nat) (f : Nat → Int32), hM h y = some (.inl (0, n, .inl f)) → y + 1 < hS h → ∀ σ : Nat → Int64, hM h (y + 1) ≠ some (.inl (1, 11, .inr (.inl σ)))
theorem WOK_nW : WOK h nW := fun y _ hy => hy.elim
theorem AucAt_fc {a : Nat} (hA : AucAt b0 h a d K t) (f : FC W c m h h') (hw : WOK h W) (hf : ∀ q, a ≤ q → q < a + 35 → simc h h' q) (ho : ∀ q, q < b0 + 395 → W q → q < b0) (hb : b0 + 395 ≤ hS h) : AucAt b0 h' a d K t := by
  obtain ⟨rl, T, R, X, P, Q, h1, h2, h3, h4, h5⟩ := hA
  have key : ∀ k, k < 3 → simc h h' (rl + k) := by
    intro k hk
    obtain ⟨r0, hr⟩ := h5
    refine f.2.2 (rl + k) (by omega) (fun hW => ?_)
    obtain ⟨g, σ, q1, q2, q3, -⟩ := h4
    have hlt : b0 ≤ rl := by rcases hr with ⟨i, h1, h2⟩ | ⟨i, h1, h2⟩ | h2 <;> omega
    obtain ⟨w1, w2, w3⟩ := hw _ (by omega) hW
    rcases (show k = 0 ∨ k = 1 ∨ k = 2 by omega) with rfl | rfl | rfl
    · exact w1 _ q1
    · exact w3 _ _ q2 (by omega) _ q3
    · exact w2 _ q3
  exact ⟨rl, T, R, X, P, Q, as_frame h1 hf, h2, h3, RuleAt_sim h4 key, RAd_mono h5 f.1.1⟩
theorem WC_fc {s : St} (hW : WC b0 h s) (f : FC W c m h h') (ho : ∀ y, W y → y < b0 ∨ b0 + 395 ≤ y) (hw : WOK h W) : WC b0 h' s := by
  obtain ⟨d, K, t, ⟨q, hd, hK, ht⟩, ea, z, B⟩ := s
  obtain ⟨h1, ⟨h2, h3, h4⟩, h5, h6⟩ := hW
  have hb := h1.1.2.2
  have hreg : ∀ x, b0 ≤ x → x < b0 + 395 → simc h h' x := fun x a b => f.2.2 x (by omega) (fun hW => by have := ho x hW; omega)
  have ho' : ∀ q, q < b0 + 395 → W q → q < b0 := fun q a b => by have := ho q b; omega
  obtain ⟨⟨a1, a2, a3⟩, a4, a5, a6, a7, a8⟩ := h1
  refine ⟨⟨⟨simc_cell (hreg _ (by omega) (by omega)) a1 (fun σ e => by cases e), GrpAt_sim a2 (fun k hk => hreg _ (by omega) (by omega)), by have := f.1.1; omega⟩, RdrAt_sim a4 (fun x _ _ => hreg x (by omega) (by omega)), HanAt_sim a5 (fun x _ _ => hreg x (by omega) (by omega)), AucRaw_sim a6 (fun x _ _ => hreg x (by omega) (by omega)), RuleAt_sim a7 (fun k hk => hreg _ (by omega) (by omega)), a8⟩, ⟨AucAt_fc h2 f hw (fun x _ _ => hreg x (by omega) (by omega)) ho' hb, h3, h4⟩, ?_, h6⟩
  obtain ⟨o, q1, q2, q3, q4, q5, q6⟩ := h5
  refine ⟨o, q1, q2, simc_cell (hreg _ (by omega) (by omega)) q3 (fun σ e => by cases e), simc_cell (hreg _ (by omega) (by omega)) q4 (fun σ e => by cases e), fun i hi => AucRaw_sim (q5 i hi) (fun x _ _ => hreg x (by omega) (by omega)), fun k hk => ?_⟩
  have : (o + k) % 8 < 8 := Nat.mod_lt _ (by omega)
  exact AucAt_fc (q6 k hk) f hw (fun x _ _ => hreg x (by omega) (by omega)) ho' hb
theorem WC_nW {s : St} (hW : WC b0 h s) (f : FC nW c m h h') : WC b0 h' s := WC_fc hW f (fun y hy => hy.elim) WOK_nW
end M64

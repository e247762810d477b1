/-! ===== the text is loaded ===== -/
section M85
variable {M : Nat → Prop} {h h' : zH} {b0 bu K N : Nat} {ea : Int32} {d e : Nat → Nat} {t : Nat → Nat} {yy : Nat × (Nat → Nat → Nat) × (Nat → Nat) × (Nat → Nat → Nat)} {L : List Nat}
theorem FC_wc {c m : Nat} (f : FC (clW b0) c m h h') : FC (wrW b0 bu) c m h h' := FC_mono f (Nat.le_refl _) (Nat.le_refl _) (fun _ _ hx => Or.inl hx)
theorem L_loadText {q : Nat} {hd : Nat → Nat → Nat} {hK : Nat → Nat} {ht : Nat → Nat → Nat} {K' : Nat} {t' : Nat → Nat} (hNN : 54400 < N) (w : WrAt M b0 bu h d K t (q, hd, hK, ht) ea L) (hl : L.length ≤ 660) (hP : PrsE L e K' t') : ∃ h' d' B', f_L_loadText N b0 bu h = some (nI (e 1), h') ∧ WC b0 h' (d', K', t', (q - forg q + 1, remF hd d q, remF hK K q, remF ht t q), -nI 1, 0, B') ∧ (∀ j, j < 178 → j ≠ 10 → d' j = e j) ∧ FC (wrW b0 bu) 3 720 h h' := by
  obtain ⟨⟨B, q0, q00⟩, ⟨f, f1, f2, f3⟩, qL, ⟨q3, q4⟩, q5, q6, q7⟩ := id w
  have hm20 : L.length % 20 < 20 := Nat.mod_lt _ (by omega)
  generalize hz : L.length / 20 * 20 = z at q0 q00 f3
  have hzl : z + L.length % 20 = L.length := by omega
  have e1 : ldI h bu (nI 0) = some (nI L.length) := by rw [ldI_of' f1 (by omega) (by omega), f2]
  have e2 : zremI (nI L.length) (nI 20) = some (nI (L.length % 20)) := nremI (by omega) (by omega) (by omega)
  -- from the emptied buffer on
  have tail : ∀ (h1 : zH) (z1 : Nat) (B1 : Nat → Int32) (g : Nat → Int32), WC b0 h1 (d, K, t, (q, hd, hK, ht), ea, z1, B1) → L.length ≤ z1 → (∀ i, i < L.length → B1 i = nI (L.getD i 0)) → hM h1 bu = some (.inl (0, 8, .inl g)) → RnAt h1 (bu + 1) → bu + 1 < hS h1 → ∃ h' d' B', f_L_loadText_j16 N b0 bu (nI L.length) h1 = some (nI (e 1), h') ∧ WC b0 h' (d', K', t', (q - forg q + 1, remF hd d q, remF hK K q, remF ht t q), -nI 1, 0, B') ∧ (∀ j, j < 178 → j ≠ 10 → d' j = e j) ∧ FC (wrW b0 bu) 3 720 h1 h' := by
    intro h1 z1 B1 g hW hle hB hm ⟨sd, hr⟩ hbs
    have s1 : stI h1 bu (nI 0) (nI 0) = some (hPut h1 bu (.inl (0, 8, .inl (upd g 0 (nI 0))))) := stI_of' hm (by omega) (by omega)
    have fp : FC (fun x => x = bu) 0 0 h1 (hPut h1 bu (.inl (0, 8, .inl (upd g 0 (nI 0))))) := FC_put
    have hW2 := WC_fc hW fp (fun y hy => by rw [hy]; exact q3) (fun y hy hyb => by
      subst hyb
      refine ⟨fun fs h9 => ?_, fun σ h9 => ?_, fun n g _ _ σ h9 => ?_⟩
      · rw [hm] at h9; cases h9
      · rw [hm] at h9; cases h9
      · rw [hr] at h9; cases h9)
    obtain ⟨h', d', a1, a2, a3, a4⟩ := C_load (N := N) (L := L) hNN hW2 hle (fun i hi => ⟨qL i, hB i hi⟩) hP
    have o8 : ∀ F : Option ((Int32 ⊕ Nat) × zH), onO 8 b0 (hPut h1 bu (.inl (0, 8, .inl (upd g 0 (nI 0))))) F = F := fun F => onO_of' hW2.1.1.1
    refine ⟨h', d', B1, ?_, a2, a3, FC_mono (FC_tr (FC_mono (W' := wrW b0 bu) fp (Nat.le_refl _) (Nat.le_refl _) (fun x _ hx => Or.inr hx)) (FC_wc a4)) (by omega) (by omega) (fun _ _ h => h)⟩
    have ll : f_L_load N b0 (nI L.length) (hPut h1 bu (.inl (0, 8, .inl (upd g 0 (nI 0))))) = some (nI (e 1), h') := by
      rw [f_L_load, o8, a1, Option.bind_some]
      rfl
    rw [f_L_loadText_j16, show (0 : Int32) = nI 0 from rfl, s1, Option.bind_some, ll, Option.bind_some]
  by_cases hm0 : L.length % 20 = 0
  · obtain ⟨h', d', B', a1, a2, a3, a4⟩ := tail h z B f q0 (by omega) (fun i hi => q00 i (by omega)) f1 q5 q4
    refine ⟨h', d', B', ?_, a2, a3, a4⟩
    rw [f_L_loadText, show (0 : Int32) = nI 0 from rfl, e1, Option.bind_some, show (20 : Int32) = nI 20 from rfl, e2, Option.bind_some, if_pos (of_eq_true (nleT (by omega) (by omega)))]
    exact a1
  · obtain ⟨h1, B1, g, b1, b2', b3, b4, b5, b6, b7, b8⟩ := Wr_flush (N := N) (L := L) (bu := bu) (by omega) q0 (by omega) q00 f1 f3 qL q3 q4 q5 q7
    obtain ⟨h', d', B', a1, a2, a3, a4⟩ := tail h1 (z + 20) B1 g b2' (by omega) (fun i hi => b3 i (by omega)) b4 b8 (Nat.lt_of_lt_of_le q4 b7.1.1)
    refine ⟨h', d', B', ?_, a2, a3, FC_mono (FC_tr b7 a4) (by omega) (by omega) (fun _ _ h => h)⟩
    rw [f_L_loadText, show (0 : Int32) = nI 0 from rfl, e1, Option.bind_some, show (20 : Int32) = nI 20 from rfl, e2, Option.bind_some, if_neg (of_eq_false (nleF (by omega) (by omega))), b1, Option.bind_some]
    exact a1
end M85

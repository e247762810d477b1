/-! ===== the law: one number of the script, the script ===== -/
section M98
variable {M M' : Nat → Prop} {h h' : zH} {N n c m b0 bu K L i : Nat} {d t : Nat → Nat} {κ : Nat → Nat} {yy : Nat × (Nat → Nat → Nat) × (Nat → Nat) × (Nat → Nat → Nat)} {ea : Int32} {B : Nat → Int32} {xs : Nat → Int32} {P : Option ((Int32 ⊕ Nat) × zH) → Prop}
abbrev y0 : Yr := ((0, (fun _ => d0N), (fun _ => 1), (fun _ _ => 10000)), -nI 1, 0, fun _ => nI 0)
theorem znlP {β : Type} {P : Option β → Prop} {x : Nat} {A : Option β} {B : Nat → Option β} (h : P (B x)) : P (znl (some x) A B) := h
theorem Env_cl (E : EnvW M b0 bu κ h [] d K t yy ea) (w : WC b0 h' (d, K, t, yy, ea, 0, B)) (f : FC (clW b0) c m h h') : EnvW M b0 bu κ h' [] d K t yy ea := by
  obtain ⟨⟨-, ⟨fb, q1, q2, q3⟩, q4, ⟨q5, q6⟩, ⟨sd, q7⟩, q8, q9⟩, k, b, hb, mb⟩ := E
  have n1 : ¬ clW b0 bu := fun h => by have := h.2; omega
  have n2 : ¬ clW b0 (bu + 1) := fun h => by have := h.2; omega
  have s := f.1.1
  exact ⟨⟨⟨B, w, fun i hi => absurd hi (Nat.not_lt_zero i)⟩, ⟨fb, cell_fc q1 (by omega) f n1 (fun σ e => by cases e), q2, q3⟩, q4, ⟨q5, by omega⟩, ⟨sd, cell_fc q7 q6 f n2 (fun σ e => by cases e)⟩, q8, q9⟩, K20_fc k f (fun y hy => q8 y (Or.inl hy)), MB_fc b f, hb, mb⟩
theorem S_setup {x9 : Int32} (hNN : 1400 < N) (k : K20 M κ h) (b : MB M h) : ∃ (h1 h2 h3 h4 h5 h6 h7 : zH) (bu : Nat) (M' : Nat → Prop), nwOb 8 [Value.null, .null, .null, .null, .null, .int 0] h = some (hS h, h1) ∧ f_X8_init N (hS h) h1 = some h2 ∧ nwI h2 (8 : Int32) = some (bu, h3) ∧ nwOb 11 [.int 0] h3 = some (bu + 1, h4) ∧ f_X11_init N (bu + 1) x9 h4 = some h5 ∧ nwOb 12 [.int 0, .null, .null, .null, .null, .int 0, .int 0, .null, .int 0, .int 0, .int 0, .null] h5 = some (bu + 2, h6) ∧ f_X12_init N (bu + 2) h6 = some h7 ∧ PW M' (hS h) (bu + 2) (bu + 3) (bu + 4) (bu + 5) h7 d0N 1 (fun _ => 10000) y0 ∧ EnvW M' (hS h) bu κ h7 [] d0N 1 (fun _ => 10000) (0, (fun _ => d0N), (fun _ => 1), (fun _ _ => 10000)) (-nI 1) ∧ hS h7 ≤ hS h + 403 ∧ hN h7 ≤ hN h + 6630 := by
  obtain ⟨h1, h2, a1, a2, w2, f2, s2⟩ := C_new (N := N) (h := h) (by omega)
  have a3 : nwI h2 (8 : Int32) = some (hS h2, hNew h2 (.inl (0, 8, .inl (fun _ => nI 0))) 8) := nwI_of (h := h2) (n := 8) (by omega)
  have f3 : FC nW 1 8 h2 (hNew h2 (.inl (0, 8, .inl (fun _ => nI 0))) 8) := FC_new
  have c3 : hM (hNew h2 (.inl (0, 8, .inl (fun _ => nI 0))) 8) (hS h2) = some (.inl (0, 8, .inl (fun _ => nI 0))) := hM_new_eq
  have s3 : hS (hNew h2 (.inl (0, 8, .inl (fun _ => nI 0))) 8) = hS h2 + 1 := rfl
  revert a3 f3 c3 s3
  generalize hNew h2 (.inl (0, 8, .inl (fun _ => nI 0))) 8 = h3
  intro a3 f3 c3 s3
  have a4 : nwOb 11 [.int 0] h3 = some (hS h3, hNew h3 (.inr (11, [.int 0])) 1) := rfl
  have a5 : f_X11_init N (hS h3) x9 (hNew h3 (.inr (11, [.int 0])) 1) = some (hNew h3 (.inr (11, [.int x9])) 1) := by
    rw [f_X11_init, pF_of' (fs := [.int 0]) (k := 0) (v := .int x9) hM_new_eq (by decide), Option.bind_some, new_put]
    rfl
  have f5 : FC nW 1 1 h3 (hNew h3 (.inr (11, [.int x9])) 1) := FC_new
  have c5 : hM (hNew h3 (.inr (11, [.int x9])) 1) (hS h3) = some (.inr (11, [.int x9])) := hM_new_eq
  have s5 : hS (hNew h3 (.inr (11, [.int x9])) 1) = hS h3 + 1 := rfl
  revert a4 a5 f5 c5 s5
  generalize hNew h3 (.inr (11, [.int 0])) 1 = h4
  generalize hNew h3 (.inr (11, [.int x9])) 1 = h5
  intro a4 a5 f5 c5 s5
  have mb5 : MB (fun x => M x ∨ (hS h ≤ x ∧ x < hS h + 397)) h5 := fun x hx => by
    rcases hx with hx | hx
    · have := b x hx; omega
    · omega
  obtain ⟨h6, h7, a6, a7, q7, f7, s7, -, -⟩ := S_new (N := N) mb5
  have fa : FC nW (1 + 1 + 6) (8 + 1 + 12) h2 h7 := FC_tr (FC_tr f3 f5) f7
  have fb : FC nW (1 + 6) (1 + 12) h3 h7 := FC_tr f5 f7
  have w7 := WC_nW w2 fa
  have c7 := cell_fc c3 (by omega) fb (fun h => h) (fun σ e => by cases e)
  have d7 := cell_fc c5 (by omega) f7 (fun h => h) (fun σ e => by cases e)
  have e3 : hS h3 = hS h2 + 1 := s3
  have e5 : hS h5 = hS h2 + 2 := by omega
  rw [e3] at a4 a5 d7
  rw [e5] at a6 a7 q7
  have hm1 : ∀ y, y < hS h → ow4 (fun x => M x ∨ (hS h ≤ x ∧ x < hS h + 397)) (hS h2 + 2) y → M y := fun y hy hm => by
    rcases hm with (hm | hm) | hm | hm | hm | hm
    · exact hm
    all_goals omega
  have hcl : ∀ x, clW (hS h) x → ow4 (fun x => M x ∨ (hS h ≤ x ∧ x < hS h + 397)) (hS h2 + 2) x := fun x hx => Or.inl (Or.inr ⟨hx.1, by have := hx.2; omega⟩)
  refine ⟨h1, h2, h3, h4, h5, h6, h7, hS h2, _, a1, a2, a3, a4, a5, a6, a7, ⟨w7, q7, hcl, fun x hx => ?_⟩, ⟨⟨⟨_, w7, fun i hi => absurd hi (Nat.not_lt_zero i)⟩, ⟨_, c7, rfl, fun k hk => ?_⟩, fun i => ?_, ⟨Or.inr (by omega), by omega⟩, ⟨_, d7⟩, fun x hx => ?_, Or.inr (by omega)⟩, ?_, ?_, by omega, Or.inl (Or.inr ⟨by omega, by omega⟩)⟩, by omega, ?_⟩
  · rcases hx with hx | hx | hx | hx
    all_goals omega
  · have z9 : ∀ j, ([] : List Nat).getD j 0 = 0 := fun j => by simp
    have : wdW [] (([] : List Nat).length / 20 * 20) k = 0 := by
      unfold wdW
      rw [z9, z9, z9, z9]
    rw [this]
  · show (0 : Nat) < 256
    omega
  · rcases hx with hx | hx
    · exact hcl x hx
    · exact Or.inl (Or.inr ⟨by omega, by omega⟩)
  · exact K20_fc (K20_M k hm1) (FC_tr f2 fa) nW_any
  · intro y hy
    rcases hy with (hy | hy) | hy | hy | hy | hy
    · have := b y hy; omega
    all_goals omega
  · have := f2.2.1.2; have := fa.2.1.2; omega
theorem law_one (hNN : 54400 < N) (k20 : K20 M κ h) (mb : MB M h) (hi : i < L) (hi2 : i < 2) (hL : L < 1000) (hP : ∀ M' h', K20 M' κ h' → MB M' h' → hS h' ≤ hS h + 50000 → hN h' ≤ hN h + 300000 → P (f_L_law_l4 N κ L xs n (nI 1) (nI (i + 1)) h')) : P (f_L_law_l4 N κ L xs (n + 1) (nI 1) (nI i) h) := by
  have hN1 : 1400 < N := by omega
  rw [f_L_law_l4]
  refine ifPF (show ¬ nI L ≤ nI i from of_eq_false (nleF (by omega) (by omega))) ?_
  refine ifPF (show ¬ nI 2 ≤ nI i from of_eq_false (nleF (by omega) (by omega))) ?_
  refine ifPF (show ¬ nI 1 = (0 : Int32) from by decide) ?_
  have ld : ldS L xs (nI i) = some (xs i) := by
    unfold ldS
    rw [nI_clamp (by omega), if_pos ⟨nI_nn (by omega), hi⟩]
  obtain ⟨h1, h2, h3, h4, h5, h6, h7, bu, M1, a1, a2, a3, a4, a5, a6, a7, P7, E7, s7, n7⟩ := S_setup (N := N) (x9 := xs i) hN1 k20 mb
  refine bindP a1 ?_
  refine bindP a2 ?_
  refine bindP a3 ?_
  refine bindP a4 ?_
  refine bindP ld ?_
  refine bindP a5 ?_
  refine bindP a6 ?_
  refine bindP a7 ?_
  obtain ⟨h8, b1, P8, f8⟩ := L_agrees hN1 P7
  have E8 := Env_cl E7 P8.1 f8
  refine bindP b1 ?_
  refine zthP ?_
  refine zjnP ?_
  refine zjnP ?_
  refine ifPF (show ¬ nI 1 = (0 : Int32) from by decide) ?_
  have ho : overN d0N = true := rfl
  have w8 := P8.1
  obtain ⟨k1, c1, w1, f1⟩ := WR w8 (C_error hN1 w8)
  refine bindP c1 ?_
  refine ifPT rfl ?_
  obtain ⟨k2, c2, w2, f2⟩ := WR w1 (C_undo0 hN1 w1)
  refine bindP c2 ?_
  refine ifPT rfl ?_
  obtain ⟨k3, c3, w3, f3⟩ := G_play w2 (C_playO (x := nI 0) hN1 w2 ho) (fun k hk => by cases hk; omega)
  refine bindP c3 ?_
  refine ifPT rfl ?_
  obtain ⟨k4, c4, w4, f4⟩ := G_pass w3 (C_passO hN1 w3 ho) (exc rfl)
  refine bindP c4 ?_
  refine ifPT rfl ?_
  obtain ⟨k5, c5, w5, f5⟩ := G_give w4 (C_giveP (x := nI 0) (y := nI 12) (w := nI 1) hN1 w4 (fun ⟨v, v1, v2⟩ => absurd v1 (Nat.not_lt_zero v))) (fun k hk => by cases hk; omega)
  refine bindP c5 ?_
  refine ifPT rfl ?_
  obtain ⟨k6, c6, w6, f6⟩ := G_order w5 (C_order (x := nI 12) (e := 0) hN1 w5 (by decide +kernel)) noexc
  refine bindP c6 ?_
  refine ifPT (show nI (ordN 0) = (1 : Int32) from by decide +kernel) ?_
  obtain ⟨k7, c7, w7, f7⟩ := G_order w6 (C_order (x := nI 21) (e := 1) hN1 w6 (by decide +kernel)) noexc
  refine bindP c7 ?_
  refine ifPT (show nI (ordN 1) = (2 : Int32) from by decide +kernel) ?_
  obtain ⟨k8, c8, w8', f8'⟩ := G_order w7 (C_orderN (x := nI 11) hN1 w7 (by decide +kernel)) (exc rfl)
  refine bindP c8 ?_
  refine ifPT rfl ?_
  have F8 := FC_tr (FC_tr (FC_tr (FC_tr (FC_tr (FC_tr (FC_tr f1 f2) f3) f4) f5) f6) f7) f8'
  have E9 := Env_cl E8 w8' F8
  obtain ⟨a, h9, r1, ⟨M2, pu, wo, ha, d, K, t, q, hd, hK, ht, B, r2, r3, r4, r5, r6, r7, r8, r9, r10, r11⟩, r12⟩ := L_randomSale (N := N) hNN E9
  refine bindP r1 ?_
  refine znlP ?_
  refine zjnP ?_
  refine zjnP ?_
  refine ifPF (show ¬ (1 : Int32) = (0 : Int32) from by decide) ?_
  have hb9 : hS h + 395 ≤ bu := E9.2.2.2.1
  have P9 : PW M2 (hS h) a pu wo ha h9 d K t ((q, hd, hK, ht), -nI 1, 0, B) := ⟨r2, r4, fun x hx => r8 x (E9.1.2.2.2.2.2.1 x (Or.inl hx)), fun x hx => by have := r10 x hx; omega⟩
  obtain ⟨h10, g1, P10, g2⟩ := L_agrees hN1 P9
  refine bindP g1 ?_
  refine zthP ?_
  refine ifPF (show ¬ nI 1 = (0 : Int32) from by decide) ?_
  have nq : nwQ 7 h10 (9 : Int32) = some (hS h10, hNew h10 (rfA 9 7 (fun _ => none)) 9) := by
    show nwQ 7 h10 (nI 9) = _
    unfold nwQ
    rw [nI_clamp (by omega), if_pos ⟨by omega, nI_nn (by omega), by omega⟩]
  refine bindP nq ?_
  have u1 : ∀ y, y < hS h10 → (M2 y ∨ y = hS h10) → M2 y := fun y hy hm => by
    rcases hm with hm | hm
    · exact hm
    · omega
  have f11 : FC nW 1 9 h10 (hNew h10 (rfA 9 7 (fun _ => none)) 9) := FC_new
  have P11 := PW_nW (PW_M (M' := fun y => M2 y ∨ y = hS h10) P10 u1 (fun y hy => Or.inl hy)) f11
  have k10 := K20_fc r5 g2 P9.2.2.1
  have m10 := MB_fc r6 g2
  have s9 := g2.1
  have rn10 := Rn_fc r7 g2 r11 (fun hw => by have := hw.2; omega)
  have ob := own_M r4
  have LI0 : LI (fun y => M2 y ∨ y = hS h10) (hS h) (bu + 1) (hS h10) κ (hNew h10 (rfA 9 7 (fun _ => none)) 9) a d K t 0 (fun _ => none) q hd hK ht (-nI 1) 0 B (hS h + 2500) (hN h + 24000) := by
    refine ⟨pu, wo, ha, P11, ⟨K20_fc (K20_M k10 u1) f11 nW_any, fun y hy => ?_, ⟨Rn_fc rn10 f11 (by omega) (fun h => h), Or.inl (r8 _ E9.2.2.2.2), by omega, ?_, fun hw => by have := r10 _ hw; omega⟩, ⟨hM_new_eq, Or.inr rfl, by omega, ?_, by omega, fun hw => by have := r6 _ (ob _ hw); omega⟩, ⟨fun j h1 h2 => absurd h1 (Nat.not_lt_zero j), fun j h1 h2 => rfl⟩⟩, by omega, ?_, ?_⟩
    · rw [hS_new]
      rcases hy with hy | hy
      · have := m10 y hy; omega
      · omega
    · rw [hS_new]; omega
    · rw [hS_new]; omega
    · rw [hS_new]
      have := F8.1.2; have := f8.1.2; have := r12.1.2; have := g2.1.2
      omega
    · have := F8.2.1.2; have := f8.2.1.2; have := r12.2.1.2; have := g2.2.1.2; have := f11.2.1.2
      omega
  refine law_rounds hN1 40 0 N _ _ d 0 _ q hd hK ht _ _ (by omega) (by omega) (by omega) LI0 (fun M3 h12 d3 D3 g3 q3 hd3 hK3 ht3 mm l1 l2 => ?_)
  obtain ⟨pu3, wo3, ha3, P12, B12, q8, s12, n12⟩ := l2
  refine undo_l hN1 l1 q8 (min D3 8) 0 N h12 d3 K t a pu3 wo3 ha3 _ _ (by omega) (by omega) B12 (by rw [Nat.sub_zero]; exact P12) s12 n12 (fun h13 d4 K4 t4 a4 pu4 wo4 ha4 k' B13 P13 s13 n13 => ?_)
  refine law_end hN1 P13 rfl (fun h14 f14 => ?_)
  have K14 := K20_fc B13.1 f14 P13.2.2.1
  have M14 := MB_fc B13.2.1 f14
  have fin := hP M3 h14 K14 M14 (by have := f14.1.2; omega) (by have := f14.2.1.2; omega)
  rw [← nadd] at fin
  exact fin
theorem law_all (hNN : 54400 < N) (hL : L < 1000) : ∀ (r i fu : Nat) (M : Nat → Prop) (h : zH), i + r = 2 → r < fu → K20 M κ h → MB M h → (∀ h', hS h' ≤ hS h + 50000 * r → hN h' ≤ hN h + 300000 * r → P (some (.inl (nI 1), h'))) → P (f_L_law_l4 N κ L xs fu (nI 1) (nI i) h) := by
  intro r
  induction r with
  | zero =>
    intro i fu M h hr hf k20 mb hP
    obtain ⟨f, rfl⟩ : ∃ f, fu = f + 1 := ⟨fu - 1, by omega⟩
    have fin := hP h (by omega) (by omega)
    rw [f_L_law_l4]
    have z1 : zB (nI 1) = some (nI 1) := by decide
    by_cases hiL : L ≤ i
    · refine ifPT (show nI L ≤ nI i from of_eq_true (nleT (by omega) hiL)) ?_
      refine bindP z1 ?_
      exact fin
    · refine ifPF (show ¬ nI L ≤ nI i from of_eq_false (nleF (by omega) (by omega))) ?_
      refine ifPT (show nI 2 ≤ nI i from of_eq_true (nleT (by omega) (by omega))) ?_
      refine bindP z1 ?_
      exact fin
  | succ r ih =>
    intro i fu M h hr hf k20 mb hP
    obtain ⟨f, rfl⟩ : ∃ f, fu = f + 1 := ⟨fu - 1, by omega⟩
    by_cases hiL : L ≤ i
    · have z1 : zB (nI 1) = some (nI 1) := by decide
      rw [f_L_law_l4]
      refine ifPT (show nI L ≤ nI i from of_eq_true (nleT (by omega) hiL)) ?_
      refine bindP z1 ?_
      exact hP h (by omega) (by omega)
    · refine law_one hNN k20 mb (by omega) (by omega) hL (fun M' h' x1 x2 x3 x4 => ?_)
      exact ih (i + 1) f M' h' (by omega) (by omega) x1 x2 (fun h2 y1 y2 => hP h2 (by omega) (by omega))
/-- the law answers 1 on every script -/
theorem z_math (L : Nat) (hL : L ≤ 260) (xs : Nat → Int32) (κ : Nat → Nat) (M : Nat → Prop) (h : zH) (k20 : K20 M κ h) (mb : MB M h) : ∃ N h', f_L_law N κ L xs h = some (.inl 1, h') ∧ hS h' ≤ hS h + 100000 ∧ hN h' ≤ hN h + 600000 := by
  have key := law_all (N := 100000) (L := L) (κ := κ) (xs := xs) (P := fun x => ∃ h', x = some (.inl 1, h') ∧ hS h' ≤ hS h + 100000 ∧ hN h' ≤ hN h + 600000) (by omega) (by omega) 2 0 100000 M h rfl (by omega) k20 mb (fun h' h1 h2 => ⟨h', rfl, by omega, by omega⟩)
  obtain ⟨h', e1, e2, e3⟩ := key
  exact ⟨100000, h', e1, e2, e3⟩
end M98

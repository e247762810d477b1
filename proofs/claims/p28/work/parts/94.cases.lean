/-! ===== the law's rounds: the cases ===== -/
section M94
variable {M : Nat → Prop} {h h' : zH} {N a pu wo ha b0 rn bf K D q A Sb Nb z p : Nat} {d t : Nat → Nat} {κ : Nat → Nat} {g : Nat → Option Nat} {hd : Nat → Nat → Nat} {hK : Nat → Nat} {ht : Nat → Nat → Nat} {ea : Int32} {B : Nat → Int32}
theorem exc {k k' : Nat} (hk : k = k') : ∀ k2, (.inr k : Int32 ⊕ Nat) = .inr k2 → k2 = k' := fun k2 h => by cases h; exact hk
theorem noexc {v : Int32} {Q : Nat → Prop} : ∀ k2, (.inl v : Int32 ⊕ Nat) = .inr k2 → Q k2 := fun k2 h => by cases h
theorem ac_cl0 {h1 : zH} (X : AcX M b0 rn bf κ h a pu wo ha d K t D g q hd hK ht A d ((q, hd, hK, ht), ea, z, B) Sb Nb) (w1 : WC b0 h1 (d, K, t, ((q, hd, hK, ht), ea, z, B))) (f1 : FC (clW b0) 1 6 h h1) : AcX M b0 rn bf κ h1 a pu wo ha d K t D g q hd hK ht A d ((q, hd, hK, ht), ea, z, B) (Sb + 1) (Nb + 6) := AcX_fc X f1 X.1.2.2.1 (fun y hy => Or.inl hy) ⟨w1, SaleAt_cl X.1.2.1 f1 X.1.2.2.1 X.1.2.2.2, X.1.2.2⟩
theorem R_play1 (hNN : 1400 < N) (X : AcX M b0 rn bf κ h a pu wo ha d K t D g q hd hK ht A d ((q, hd, hK, ht), ea, z, B) Sb Nb) {c : Nat} (ho : overN d = false) (hc : c < d (11 + 19 * d 4 + 1)) : ∃ v h1 h2 d', f_X12_play N a (nI c) h = some (v, h1) ∧ f_L_play N b0 (nI c) h1 = some (v, h2) ∧ onO 12 a h (f_X12_play N a (nI c) h) = f_X12_play N a (nI c) h ∧ AcX M b0 rn bf κ h2 a pu wo ha d K t D g q hd hK ht A d' ((q - forg q + 1, remF hd d q, remF hK K q, remF ht t q), ea, z, B) (Sb + 41) (Nb + 206) := by
  have hD := PW_g X.1
  obtain ⟨sp1, sp2⟩ := S_play (N := N) (by omega) X.1.2.1 hD ho X.2.1.2.1 hc
  by_cases hb : playB d (priT d K t (d 4) c)
  · obtain ⟨h1, e1, e2, e3⟩ := sp1 hb
    have w1 := WC_own X.1.1 X.1.2.1 e3 X.1.2.2.2
    obtain ⟨h2, g1, g2, g3⟩ := G_play w1 (C_playR hNN w1 ho hc hb) noexc
    exact ⟨-nI 1, h1, h2, d, e1, g1, PW_o12 X.1, ac_lc X e2 e3 g2 g3⟩
  · obtain ⟨h1, e1, e2, e3⟩ := sp2 hb
    have w1 := WC_own X.1.1 X.1.2.1 e3 X.1.2.2.2
    obtain ⟨h2, g1, g2, g3⟩ := G_play w1 (C_playY hNN w1 ho hc hb) noexc
    exact ⟨_, h1, h2, _, e1, g1, PW_o12 X.1, ac_lc X e2 e3 g2 g3⟩
theorem R_play0 (hNN : 1400 < N) (X : AcX M b0 rn bf κ h a pu wo ha d K t D g q hd hK ht A d ((q, hd, hK, ht), ea, z, B) Sb Nb) {c : Nat} (hc2 : c < 1000) (hc : overN d = true ∨ d (11 + 19 * d 4 + 1) ≤ c) : ∃ h', f_L_play N b0 (nI c) h = some (if overN d = true then (-2000000099 : Int32) else (-2000000100 : Int32), h') ∧ AcX M b0 rn bf κ h' a pu wo ha d K t D g q hd hK ht A d ((q, hd, hK, ht), ea, z, B) (Sb + 1) (Nb + 6) := by
  have hD := PW_g X.1
  cases ho : overN d with
  | true =>
    obtain ⟨h2, g1, g2, g3⟩ := G_play X.1.1 (C_playO (x := nI c) hNN X.1.1 ho) (fun k hk => by cases hk; omega)
    exact ⟨h2, by rw [g1]; rfl, ac_cl0 X g2 g3⟩
  | false =>
    rw [ho] at hc
    have hc : d (11 + 19 * d 4 + 1) ≤ c := by rcases hc with hc | hc; cases hc; exact hc
    obtain ⟨h2, g1, g2, g3⟩ := G_play X.1.1 (C_playN (x := nI c) hNN X.1.1 ho (fun ⟨v, v1, v2⟩ => by have := (nI_eq (by omega) (by omega)).mp v2; omega)) (fun k hk => by cases hk; omega)
    exact ⟨h2, by rw [g1]; rfl, ac_cl0 X g2 g3⟩
theorem R_cancel1 (hNN : 1400 < N) (X : AcX M b0 rn bf κ h a pu wo ha d K t D g q hd hK ht A d ((q, hd, hK, ht), ea, z, B) Sb Nb) {c i : Nat} (ho : overN d = false) (hc : c < d (11 + 19 * d 4 + 1)) (hi : i < d 5) : ∃ v h1 h2 d', f_X12_cancel N a (nI c) (nI i) h = some (v, h1) ∧ f_L_cancel N b0 (nI c) (nI i) h1 = some (v, h2) ∧ onO 12 a h (f_X12_cancel N a (nI c) (nI i) h) = f_X12_cancel N a (nI c) (nI i) h ∧ AcX M b0 rn bf κ h2 a pu wo ha d K t D g q hd hK ht A d' ((q - forg q + 1, remF hd d q, remF hK K q, remF ht t q), ea, z, B) (Sb + 41) (Nb + 206) := by
  have hD := PW_g X.1
  obtain ⟨sp1, sp2⟩ := S_cancel (N := N) (by omega) X.1.2.1 hD ho X.2.1.2.1 hc hi
  by_cases hb : canB d c i (priT d K t (d 4) c)
  · obtain ⟨h1, e1, e2, e3⟩ := sp1 hb
    have w1 := WC_own X.1.1 X.1.2.1 e3 X.1.2.2.2
    obtain ⟨h2, g1, g2, g3⟩ := G_cancel w1 (C_cancelR hNN w1 ho hc hi hb) noexc
    exact ⟨-nI 1, h1, h2, d, e1, g1, PW_o12 X.1, ac_lc X e2 e3 g2 g3⟩
  · obtain ⟨h1, e1, e2, e3⟩ := sp2 hb
    have w1 := WC_own X.1.1 X.1.2.1 e3 X.1.2.2.2
    obtain ⟨h2, g1, g2, g3⟩ := G_cancel w1 (C_cancelY hNN w1 ho hc hi hb) noexc
    exact ⟨_, h1, h2, _, e1, g1, PW_o12 X.1, ac_lc X e2 e3 g2 g3⟩
theorem R_cancel0 (hNN : 1400 < N) (X : AcX M b0 rn bf κ h a pu wo ha d K t D g q hd hK ht A d ((q, hd, hK, ht), ea, z, B) Sb Nb) {c i : Nat} (hc2 : c < 1000) (hi2 : i < 1000) (hc : overN d = true ∨ d (11 + 19 * d 4 + 1) ≤ c ∨ d 5 ≤ i) : ∃ h', f_L_cancel N b0 (nI c) (nI i) h = some (if overN d = true then (-2000000099 : Int32) else (-2000000100 : Int32), h') ∧ AcX M b0 rn bf κ h' a pu wo ha d K t D g q hd hK ht A d ((q, hd, hK, ht), ea, z, B) (Sb + 1) (Nb + 6) := by
  have hD := PW_g X.1
  cases ho : overN d with
  | true =>
    obtain ⟨h2, g1, g2, g3⟩ := G_cancel X.1.1 (C_cancelO (x := nI c) (y := nI i) hNN X.1.1 ho) (fun k hk => by cases hk; omega)
    exact ⟨h2, by rw [g1]; rfl, ac_cl0 X g2 g3⟩
  | false =>
    rw [ho] at hc
    by_cases hcc : c < d (11 + 19 * d 4 + 1)
    · have hi : d 5 ≤ i := by rcases hc with hc | hc | hc; cases hc; omega; exact hc
      obtain ⟨h2, g1, g2, g3⟩ := G_cancel X.1.1 (C_cancelB (y := nI i) hNN X.1.1 ho hcc (fun ⟨v, v1, v2⟩ => by have := (nI_eq (by omega) (by omega)).mp v2; omega)) (fun k hk => by cases hk; omega)
      exact ⟨h2, by rw [g1]; rfl, ac_cl0 X g2 g3⟩
    · obtain ⟨h2, g1, g2, g3⟩ := G_cancel X.1.1 (C_cancelN (x := nI c) (y := nI i) hNN X.1.1 ho (fun ⟨v, v1, v2⟩ => by have := (nI_eq (by omega) (by omega)).mp v2; omega)) (fun k hk => by cases hk; omega)
      exact ⟨h2, by rw [g1]; rfl, ac_cl0 X g2 g3⟩
theorem R_pass1 (hNN : 1400 < N) (X : AcX M b0 rn bf κ h a pu wo ha d K t D g q hd hK ht A d ((q, hd, hK, ht), ea, z, B) Sb Nb) (ho : overN d = false) : ∃ v h1 h2 d', f_L_pass N b0 h = some (v, h1) ∧ f_X12_pass N a h1 = some (v, h2) ∧ (∀ F : Option (Int32 × zH), onO 12 a h1 F = F) ∧ AcX M b0 rn bf κ h2 a pu wo ha d K t D g q hd hK ht A d' ((q - forg q + 1, remF hd d q, remF hK K q, remF ht t q), ea, z, B) (Sb + 2) (Nb + 6) := by
  have hD := PW_g X.1
  obtain ⟨h1, g1, g2, g3⟩ := G_pass X.1.1 (C_passY hNN X.1.1 ho) noexc
  have q1 := SaleAt_cl X.1.2.1 g3 X.1.2.2.1 X.1.2.2.2
  obtain ⟨h2, e1, e2, e3⟩ := S_pass (N := N) q1 hD ho (MB_fc X.2.1.2.1 g3)
  exact ⟨_, h1, h2, _, g1, e1, fun F => o12 q1, ac_cl X g2 g3 e2 e3⟩
theorem R_pass0 (hNN : 1400 < N) (X : AcX M b0 rn bf κ h a pu wo ha d K t D g q hd hK ht A d ((q, hd, hK, ht), ea, z, B) Sb Nb) (ho : overN d = true) : ∃ h', f_L_pass N b0 h = some ((-2000000099 : Int32), h') ∧ AcX M b0 rn bf κ h' a pu wo ha d K t D g q hd hK ht A d ((q, hd, hK, ht), ea, z, B) (Sb + 1) (Nb + 6) := by
  obtain ⟨h2, g1, g2, g3⟩ := G_pass X.1.1 (C_passO hNN X.1.1 ho) (fun k hk => by cases hk; rfl)
  exact ⟨h2, g1, ac_cl0 X g2 g3⟩
theorem R_give1 (hNN : 1400 < N) (X : AcX M b0 rn bf κ h a pu wo ha d K t D g q hd hK ht A d ((q, hd, hK, ht), ea, z, B) Sb Nb) {e base er : Nat} (hp : p < d 1) (hc : d (11 + 19 * p + 1) < 8) (he : e < fctN (d 0)) (hr : RowAt M h er (d 0) e) (h1b : 1 ≤ base) (hb2 : base ≤ 999) : ∃ r0 h1 h2 h3 h4 h5 r1, ldQ h ha (nI p) = some r0 ∧ nwOb 9 [.int 0, .null, .int 0] h = some (hS h, h1) ∧ f_X9_init N (hS h) (nI p) er (nI base) h1 = some h2 ∧ f_L_with N r0 (hS h) h2 = some (r1, h3) ∧ stR h3 ha (nI p) r1 = some h4 ∧ f_L_number N er h4 = some (nI (numN (d 0) e), h4) ∧ f_L_give N b0 (nI p) (nI (numN (d 0) e)) (nI base) h4 = some (nI (d (11 + 19 * p + 1) + 1), h5) ∧ AcX M b0 rn bf κ h5 a pu wo ha d K t D g q hd hK ht A (giveN d p (numN (d 0) e) base) ((q - forg q + 1, remF hd d q, remF hK K q, remF ht t q), ea, z, B) (Sb + 10) (Nb + 50) := by
  have hD := PW_g X.1
  have hz := SzD_of hD
  have g0 := hD.1.1
  have f8 := fct_le g0
  obtain ⟨-, -, r0, b3, b4, b5⟩ := rd_play X.1.2.1 hp hz.1
  have bM := X.2.1.2.1
  obtain ⟨n1, n2⟩ := card_new (pl := nI p) (bs := base) bM hr
  have L9 := L_card9 (N := N) (h := h) (pl := nI p) (er := er) (bs := base)
  have w0 : nwOb 9 [.int 0, .null, .int 0] h = some (hS h, hNew h (.inr (9, [.int 0, .null, .int 0])) 3) := rfl
  have f1 : FC nW 1 3 h (hNew h (.inr (9, [.int (nI p), .ref er, .int (nI base)])) 3) := FC_new
  have q1 := SaleAt_nW X.1.2.1 f1
  have gv := give_rd (e := d) (p := p) (x := numN (d 0) e) (y := base) hc
  obtain ⟨gw, w1, w2⟩ := S_with (N := N) (E' := fun i => idxN (d 0) (giveN d p (numN (d 0) e) base (11 + 19 * p + 3 + 2 * i))) (B' := fun i => giveN d p (numN (d 0) e) base (11 + 19 * p + 3 + 2 * i + 1)) (Q' := fun _ _ => True) (by omega) (CardsAt_nW b5 f1) (MB_fc bM f1) (by omega) n1 n2 (fun i hi => by
    refine ⟨?_, gv.2.2.2 _ (by omega) (by omega) (by omega), fun _ _ => trivial⟩
    rw [gv.2.2.2 _ (by omega) (by omega) (by omega)]) ⟨by rw [gv.2.1]; exact idx_num g0 he, gv.2.2.1, trivial⟩
  have f2 : FC nW 1 (d (11 + 19 * p + 1) + 1) (hNew h (.inr (9, [.int (nI p), .ref er, .int (nI base)])) 3) (hNew (hNew h (.inr (9, [.int (nI p), .ref er, .int (nI base)])) 3) (rfA (d (11 + 19 * p + 1) + 1) 5 gw) (d (11 + 19 * p + 1) + 1)) := FC_new
  have q2 := SaleAt_nW q1 f2
  obtain ⟨h4, s1, s2, s3⟩ := S_ha (d' := giveN d p (numN (d 0) e) base) q2 hz hp (fun j hj => gv.2.2.2 j (by omega) (by omega) (by omega)) (by rw [gv.1]; exact w2)
  have fo : FC (ownW a pu wo ha) 2 12 h h4 := FC_mono (FC_tr (FC_ow (FC_tr f1 f2) (Nat.le_refl _) (Nat.le_refl _) nW_ow) s3) (by omega) (by omega) (fun _ _ h => h)
  have er4 := RowAt_fc hr fo (own_M X.1.2.1)
  have nm := L_number (N := N) (by omega) g0 he (RowAt_E er4)
  have w4 := WC_own X.1.1 X.1.2.1 fo X.1.2.2.2
  have hy : eltI (d 0) (nI (numN (d 0) e)) = some e := by
    rw [eltI_nI (by have := num_lt g0 (show e < 120 by omega); omega)]
    exact elt_num g0 he
  obtain ⟨h5, g1, g2, g3⟩ := G_give w4 (C_giveY hNN w4 he hy hp h1b hb2 hc) noexc
  exact ⟨r0, _, _, _, h4, h5, _, b3, w0, L9, w1, s1, nm, g1, AcX_le (ac_lc X s2 fo g2 g3) (by omega) (by omega)⟩
theorem R_give0 (hNN : 1400 < N) (X : AcX M b0 rn bf κ h a pu wo ha d K t D g q hd hK ht A d ((q, hd, hK, ht), ea, z, B) Sb Nb) {e base er : Nat} (hp9 : p < 1000) (he : e < fctN (d 0)) (hr : RowAt M h er (d 0) e) (hcs : d 1 ≤ p ∨ (p < d 1 ∧ base = 1000) ∨ (p < d 1 ∧ 1 ≤ base ∧ base ≤ 999 ∧ d (11 + 19 * p + 1) = 8)) : ∃ h', f_L_number N er h = some (nI (numN (d 0) e), h) ∧ f_L_give N b0 (nI p) (nI (numN (d 0) e)) (nI base) h = some (if d 1 ≤ p then (-2000000097 : Int32) else if base = 1000 then (-2000000098 : Int32) else (-2000000099 : Int32), h') ∧ AcX M b0 rn bf κ h' a pu wo ha d K t D g q hd hK ht A d ((q, hd, hK, ht), ea, z, B) (Sb + 1) (Nb + 6) := by
  have hD := PW_g X.1
  have g0 := hD.1.1
  have f8 := fct_le g0
  have nm := L_number (N := N) (by omega) g0 he (RowAt_E hr)
  have hy : eltI (d 0) (nI (numN (d 0) e)) = some e := by
    rw [eltI_nI (by have := num_lt g0 (show e < 120 by omega); omega)]
    exact elt_num g0 he
  by_cases hp : d 1 ≤ p
  · rw [if_pos hp]
    obtain ⟨h2, g1, g2, g3⟩ := G_give X.1.1 (C_giveP (x := nI p) (y := nI (numN (d 0) e)) (w := nI base) hNN X.1.1 (fun ⟨v, v1, v2⟩ => by have := (nI_eq (by omega) (by omega)).mp v2; omega)) (fun k hk => by cases hk; omega)
    exact ⟨h2, nm, g1, ac_cl0 X g2 g3⟩
  · rw [if_neg hp]
    by_cases hb : base = 1000
    · rw [if_pos hb, hb]
      obtain ⟨h2, g1, g2, g3⟩ := G_give X.1.1 (C_giveB (p := p) hNN X.1.1 he hy (by omega)) (fun k hk => by cases hk; omega)
      exact ⟨h2, nm, g1, ac_cl0 X g2 g3⟩
    · rw [if_neg hb]
      obtain ⟨h2, g1, g2, g3⟩ := G_give X.1.1 (C_giveF (p := p) (b := base) hNN X.1.1 he hy (by omega) (by omega) (by omega) (by omega)) (fun k hk => by cases hk; omega)
      exact ⟨h2, nm, g1, ac_cl0 X g2 g3⟩
theorem R_disc1 (hNN : 1400 < N) (X : AcX M b0 rn bf κ h a pu wo ha d K t D g q hd hK ht A d ((q, hd, hK, ht), ea, z, B) Sb Nb) {c : Nat} (hp : p < d 1) (hc : c < d (11 + 19 * p + 1)) : ∃ r0 k er h1 h2 h3 r1 v, ldQ h ha (nI p) = some r0 ∧ ldQ h r0 (nI c) = some k ∧ gA h k 9 1 = some er ∧ f_L_number N er h = some (v, h) ∧ f_L_without N r0 (nI c) h = some (r1, h1) ∧ stR h1 ha (nI p) r1 = some h2 ∧ f_L_discard N b0 (nI p) (nI c) h2 = some (v, h3) ∧ AcX M b0 rn bf κ h3 a pu wo ha d K t D g q hd hK ht A (dropN d p c) ((q - forg q + 1, remF hd d q, remF hK K q, remF ht t q), ea, z, B) (Sb + 10) (Nb + 50) := by
  have hD := PW_g X.1
  have hz := SzD_of hD
  obtain ⟨-, -, r0, b3, b4, b5⟩ := rd_play X.1.2.1 hp hz.1
  have c8 := hz.2.2 p hp
  obtain ⟨k, er, pl, k1, k2, k3, k4, k5, k6, k7, k8, -, -⟩ := rd_card b5 hc (by omega)
  obtain ⟨e1, e2, e3⟩ := good_card hD hp hc
  have nm := L_number (N := N) (by omega) hD.1.1 e1 k7
  rw [← e2] at nm
  obtain ⟨ra, rb, h1, h2, d1, d2, d3, q2, f1, q1, f2⟩ := S_drop (N := N) (by omega) X.1.2.1 hz X.2.1.2.1 hp hc
  rw [b3] at d1
  have hra : r0 = ra := Option.some.inj d1
  subst hra
  have w2 := WC_own X.1.1 X.1.2.1 f2 X.1.2.2.2
  obtain ⟨h3, g1, g2, g3⟩ := G_discard w2 (C_discardY hNN w2 hp hc) noexc
  exact ⟨r0, k, er, h1, h2, h3, rb, _, b3, k1, k3, nm, d2, d3, g1, AcX_le (ac_lc X q2 f2 g2 g3) (by omega) (by omega)⟩
theorem R_disc0 (hNN : 1400 < N) (X : AcX M b0 rn bf κ h a pu wo ha d K t D g q hd hK ht A d ((q, hd, hK, ht), ea, z, B) Sb Nb) {c : Nat} (hp9 : p < 1000) (hc9 : c < 1000) (hcs : d 1 ≤ p ∨ (p < d 1 ∧ d (11 + 19 * p + 1) ≤ c)) : ∃ h', f_L_discard N b0 (nI p) (nI c) h = some (if d 1 ≤ p then (-2000000097 : Int32) else (-2000000100 : Int32), h') ∧ AcX M b0 rn bf κ h' a pu wo ha d K t D g q hd hK ht A d ((q, hd, hK, ht), ea, z, B) (Sb + 1) (Nb + 6) := by
  have hD := PW_g X.1
  have hz := SzD_of hD
  by_cases hp : d 1 ≤ p
  · rw [if_pos hp]
    obtain ⟨h2, g1, g2, g3⟩ := G_discard X.1.1 (C_discardP (x := nI p) (y := nI c) hNN X.1.1 (fun ⟨v, v1, v2⟩ => by have := (nI_eq (by omega) (by omega)).mp v2; omega)) (fun k hk => by cases hk; omega)
    exact ⟨h2, g1, ac_cl0 X g2 g3⟩
  · rw [if_neg hp]
    have := hz.2.2 p (by omega)
    obtain ⟨h2, g1, g2, g3⟩ := G_discard X.1.1 (C_discardN (y := nI c) hNN X.1.1 (show p < d 1 by omega) (fun ⟨v, v1, v2⟩ => by have := (nI_eq (by omega) (by omega)).mp v2; omega)) (fun k hk => by cases hk; omega)
    exact ⟨h2, g1, ac_cl0 X g2 g3⟩
end M94

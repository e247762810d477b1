/-! ===== a player, a lot, a card ===== -/
section M99996
variable {h h0 h2 : zH} {b0 rl m N : Nat} {V B C : Nat → Int32} {cz : Int32} {T R : Nat → Int32} {X : Nat → Nat → Int32} {P Q : Nat → Int32} {S S0 B1 D : Nat → Int32} {H : Nat → Nat → Int32} {J : Nat → Int64} {L U Z W : Nat → Int32} {b e t : Nat → Nat} {len q hp K : Nat}
theorem wordA {i : Nat} (hNN : 2000 < N) (hT : TxtB B b len) (hA : At b len V S q) (hi : i < 9) (hw : wdAt b len q i) : ∃ V' q', f_X7_advance N (b0 + 4) (cset h (b0 + 4) (b0 + 1) rl V B cz C T R X P Q) = some (cset h (b0 + 4) (b0 + 1) (rl) (V') B (cz) (C) (T) (R) (X) (P) (Q)) ∧ At b len V' (upd S 4 (nI (q + wdL i))) q' ∧ q < q' ∧ V45 V V' := by
  obtain ⟨hq, sq, tk, v12, ⟨pm, p1, p2, p3⟩, s3, s5⟩ := hA
  obtain ⟨u1, u2, u3⟩ := (wdAt_iff hi hq).mp hw
  obtain ⟨l1, l2, l3⟩ := wd_ln hi
  have wle := hw.1
  obtain ⟨t3, t5, t4, t6, t7⟩ := tk
  rw [sq, u2] at t6
  obtain ⟨V', x1, x2, x3⟩ := x_advance (N := N) (h := aset h (b0 + 4 + 4) (b0 + 1) rl T R X P Q) (q := b0 + 4) (g := b0 + 1) (B := B) (V := V) (cz := cz) (C := C) (p := q + wdL i) (by omega) hT t3 t6 wle
  have q1le := skp_le (b := b) wle
  exact ⟨V', skp b len (q + wdL i), x1, At_mk wle x2 (by rw [x3 12 (by omega) (by omega) (by omega) (by omega)]; exact v12) (upS_eq _ _ _) (by rw [upS_ne (by omega)]; exact s3) (by rw [upS_ne (by omega)]; exact s5), by omega, fun k k4 k5 k6 k7 _ => x3 k k4 k5 k6 k7⟩
theorem GoodL_mk {V' S' T' R' : Nat → Int32} {X' : Nat → Nat → Int32} {P' Q' : Nat → Int32} {e' : Nat → Nat} {q' : Nat} (hA' : At b len V' S' q') (hS : S 13 = nI 0 ∧ S 6 = -nI 1 ∧ S 14 = nI hp) (hV : V 2 = nI 0 ∧ V 11 = nI hp ∧ V 13 = -nI 1) (hcz : hp = 0 → cz = nI 0) (h1 : V45 V V') (h2 : SK S S') (h3 : S' 6 = S 6) (hd : LD e') (hr : AucR e' T' R' X' P' Q') (ho : RowOK R') (hl : LRul b0 h0 h hp rl e' K t) (hk : SKL S0 S) : GoodL b0 h0 B b len S0 (cset h (b0 + 4) (b0 + 1) (rl) (V') B (cz) (C) (T') (R') (X') (P') (Q')) S' e' q' :=
  ⟨h, rl, V', cz, C, T', R', X', P', Q', hp, K, t, rfl, hA', ⟨(h2 13 (by omega) (by omega) (by omega) (by omega)).trans hS.1, h3.trans hS.2.1, (h2 14 (by omega) (by omega) (by omega) (by omega)).trans hS.2.2⟩, ⟨(h1 2 (by omega) (by omega) (by omega) (by omega) (by omega)).trans hV.1, (h1 11 (by omega) (by omega) (by omega) (by omega) (by omega)).trans hV.2.1, (h1 13 (by omega) (by omega) (by omega) (by omega) (by omega)).trans hV.2.2⟩, hcz, ⟨hd, hr, ho⟩, hl, SKL_tr hk (SKL_k h2)⟩
theorem plP (hNN : 2000 < N) (hT : TxtB B b len) (hT1 : TxtB B1 b len) (hA : At b len V S q) (hS : S 13 = nI 0 ∧ S 6 = -nI 1 ∧ S 14 = nI hp) (hV : V 2 = nI 0 ∧ V 11 = nI hp ∧ V 13 = -nI 1) (hcz : hp = 0 → cz = nI 0) (hD : LD e) (hR : AucR e T R X P Q) (hO : RowOK R) (hL : LRul b0 h0 h hp rl e K t) (hK : SKL S0 S) (hw : wdAt b len q 1) : SubL b0 h0 B b len S0 (fun S e => mset h2 m S B1 D (dI e) H J L U Z W) q (f_X7_takePlayer N (b0 + 4) (cset h (b0 + 4) (b0 + 1) rl V B cz C T R X P Q)) (f_X9_readPlayer N m (nI q) (mset h2 m (upd S 4 (nI (q + wdL 1))) B1 D (dI (e)) H J L U Z W)) := by
  obtain ⟨V1, q1, w1, w2, w3, w4⟩ := wordA (N := N) (h := h) (b0 := b0) (rl := rl) (cz := cz) (C := C) (T := T) (R := R) (X := X) (P := P) (Q := Q) hNN hT hA (by omega) hw
  have hA0 := hA
  obtain ⟨hq, sq, tk, v12, -, s3, s5⟩ := hA
  have t5 := tk.2.1
  rw [sq] at t5
  have e1 : (nI 1 = nI 0) = False := eq_false (by decide)
  have e0 : (nI 0 = nI 0) = True := eq_true rfl
  have h1 := hD.2.1.1
  have t9 := hR.1.2.1
  have f5 : upd S 4 (nI (q + wdL 1)) 5 = nI 0 := by rw [upS_ne (by omega)]; exact s5
  by_cases h5 : e 1 = 5
  · have nb : mErr S (q + wdL 1) (-nI 4) q 5 ≠ nI 0 := by rw [mErr_5]; exact errs_ne.2.2.1
    refine Or.inl ⟨_, mErr S (q + wdL 1) (-nI 4) q, e, cp_full (fun _ _ => cs_o7) cs_gA9 (by rw [cs_g9, t9, h5]) (by rw [cs_gI5, t5]) cs_fail, ?_, FailL_mk ?_ nb ?_ hV.1 VK_err hO (LB_rul hL) hK (SKL_k SK_err)⟩
    · simp (disch := omega) only [f_X9_readPlayer, f_X9_readPlayer_j17, onO_ms, gA_ms, ldI_ms, dI_app, h5, nlit, neqT, m_reportN s5, m_numberB nb, m_bad nb, e0, ↓reduceIte, Option.bind_some]
    · unfold errV
      rw [upS_ne (by omega), upS_eq, mErr_5]
    · unfold errV mErr
      rw [upS_eq, upS_eq]
  · rcases numP (N := N) (h := aset h (b0 + 4 + 4) (b0 + 1) rl T R X P Q) (r0 := b0 + 4) (g := b0 + 1) (B := B) (cz := cz) (C := C) (V := V1) (S := upd S 4 (nI (q + wdL 1))) (h2 := h2) (m := m) (D := D) (E := dI e) (H := H) (J := J) (L := L) (U := U) (Z := Z) (W := W) (lo := 0) (hi1 := 100000) (hi := nI 99999) hNN (by omega) (hi_c (by omega)) (hi_m (by omega)) hT hT1 w2 with ⟨V2, S2, x, a1, a2, a3, a4, a5, a6, a7⟩ | ⟨V2, S2, v, q2, v1, v2, v3, a1, a8, a2, a3, a4, a5, a6, a7, a9⟩
    · refine Or.inl ⟨_, S2, e, cp_0 (fun _ _ => cs_o7) (fun _ _ => cs_o7) cs_gA9 (by rw [cs_g9, t9]) (by omega) w1 a1, ?_, FailL_mk a3 a4 a5 ((w4 2 (by omega) (by omega) (by omega) (by omega) (by omega)).trans hV.1) a6 hO (LB_rul hL) hK (SKL_k (SK_tr SK_4 a7))⟩
      simp (disch := omega) only [f_X9_readPlayer, f_X9_readPlayer_j17, onO_ms, gA_ms, ldI_ms, dI_app, nlit, neqF, a2, m_bad a4, e0, ↓reduceIte, Option.bind_some]
    · have s25 : S2 5 = nI 0 := a3.2.2.2.2.2.2
      refine Or.inr ⟨_, S2, plN e v, q2, cp_1 (fun _ _ => cs_o7) (fun _ _ => cs_o7) cs_gA9 (by rw [cs_g9, t9]) (by omega) w1 a1 cs_gA9 (by exact cs_gI8.trans (by rw [a8])) (fun _ _ => cs_o0) (cs_add t9 (by omega)), ?_, GoodL_mk a3 hS hV hcz (V45_tr w4 a5) (SK_tr SK_4 a6) (a7.trans (upS_ne (by omega))) (LD_pl hD (by omega) (by omega)) (AucR_pl hD hR (by omega)) (RowOK_pl hO) (LRul_cg (fun j hj => plN_ne (by omega) (by omega)) hL) hK, by omega⟩
      unfold plN
      simp (disch := omega) only [f_X9_readPlayer, f_X9_readPlayer_j17, onO_ms, gA_ms, ldI_ms, stI_ms, dI_app, updI, nlit, neqF, nadd, nmul, Nat.add_zero, upN_ne, a2, m_good s25, e1, ↓reduceIte, Option.bind_some]
theorem loP (hNN : 2000 < N) (hT : TxtB B b len) (hT1 : TxtB B1 b len) (hA : At b len V S q) (hS : S 13 = nI 0 ∧ S 6 = -nI 1 ∧ S 14 = nI hp) (hV : V 2 = nI 0 ∧ V 11 = nI hp ∧ V 13 = -nI 1) (hcz : hp = 0 → cz = nI 0) (hD : LD e) (hR : AucR e T R X P Q) (hO : RowOK R) (hL : LRul b0 h0 h hp rl e K t) (hK : SKL S0 S) (hw : wdAt b len q 3) : SubL b0 h0 B b len S0 (fun S e => mset h2 m S B1 D (dI e) H J L U Z W) q (f_X7_takeLot N (b0 + 4) (cset h (b0 + 4) (b0 + 1) rl V B cz C T R X P Q)) (f_X9_readLot N m (nI q) (mset h2 m (upd S 4 (nI (q + wdL 3))) B1 D (dI (e)) H J L U Z W)) := by
  obtain ⟨V1, q1, w1, w2, w3, w4⟩ := wordA (N := N) (h := h) (b0 := b0) (rl := rl) (cz := cz) (C := C) (T := T) (R := R) (X := X) (P := P) (Q := Q) hNN hT hA (by omega) hw
  have hA0 := hA
  obtain ⟨hq, sq, tk, v12, -, s3, s5⟩ := hA
  have t5 := tk.2.1
  rw [sq] at t5
  have e1 : (nI 1 = nI 0) = False := eq_false (by decide)
  have e0 : (nI 0 = nI 0) = True := eq_true rfl
  have h1 := hD.2.1.2
  have r27 := hR.2.1.1
  have f5 : upd S 4 (nI (q + wdL 3)) 5 = nI 0 := by rw [upS_ne (by omega)]; exact s5
  by_cases h5 : e 2 = 12
  · have nb : mErr S (q + wdL 3) (-nI 4) q 5 ≠ nI 0 := by rw [mErr_5]; exact errs_ne.2.2.1
    refine Or.inl ⟨_, mErr S (q + wdL 3) (-nI 4) q, e, cl_full (fun _ _ => cs_o7) cs_gA9 cs_gA02 (fun _ _ => cs_oR isR_27) (cs_full isR_27 r27 h5) (by rw [cs_gI5, t5]) cs_fail, ?_, FailL_mk ?_ nb ?_ hV.1 VK_err hO (LB_rul hL) hK (SKL_k SK_err)⟩
    · simp (disch := omega) only [f_X9_readLot, f_X9_readLot_j18, onO_ms, gA_ms, ldI_ms, dI_app, h5, nlit, neqT, m_reportN s5, m_numberB nb, m_bad nb, e0, ↓reduceIte, Option.bind_some]
    · unfold errV
      rw [upS_ne (by omega), upS_eq, mErr_5]
    · unfold errV mErr
      rw [upS_eq, upS_eq]
  · have nf := cs_nfull (N := N) (h := h) (r0 := b0 + 4) (g := b0 + 1) (rl := rl) (V := V) (B := B) (cz := cz) (C := C) (T := T) (X := X) (P := P) (Q := Q) isR_27 r27 (show e 2 < rlen 27 by show e 2 < 12; omega)
    rcases numP (N := N) (h := aset h (b0 + 4 + 4) (b0 + 1) rl T R X P Q) (r0 := b0 + 4) (g := b0 + 1) (B := B) (cz := cz) (C := C) (V := V1) (S := upd S 4 (nI (q + wdL 3))) (h2 := h2) (m := m) (D := D) (E := dI e) (H := H) (J := J) (L := L) (U := U) (Z := Z) (W := W) (lo := 1) (hi1 := 10000) (hi := nI 9999) hNN (by omega) (hi_c (by omega)) (hi_m (by omega)) hT hT1 w2 with ⟨V2, S2, x, a1, a2, a3, a4, a5, a6, a7⟩ | ⟨V2, S2, v, q2, v1, v2, v3, a1, a8, a2, a3, a4, a5, a6, a7, a9⟩
    · refine Or.inl ⟨_, S2, e, cl_0 (fun _ _ => cs_o7) (fun _ _ => cs_o7) cs_gA9 cs_gA02 (fun _ _ => cs_oR isR_27) nf w1 a1, ?_, FailL_mk a3 a4 a5 ((w4 2 (by omega) (by omega) (by omega) (by omega) (by omega)).trans hV.1) a6 hO (LB_rul hL) hK (SKL_k (SK_tr SK_4 a7))⟩
      simp (disch := omega) only [f_X9_readLot, f_X9_readLot_j18, onO_ms, gA_ms, ldI_ms, dI_app, nlit, neqF, a2, m_bad a4, e0, ↓reduceIte, Option.bind_some]
    · have s25 : S2 5 = nI 0 := a3.2.2.2.2.2.2
      refine Or.inr ⟨_, S2, loN e v, q2, cl_1 (fun _ _ => cs_o7) (fun _ _ => cs_o7) cs_gA9 cs_gA02 (fun _ _ => cs_oR isR_27) nf w1 a1 cs_gA9 cs_gA02 (by exact cs_gI8.trans (by rw [a8])) (fun _ _ => cs_oR isR_27) (cs_push isR_27 r27 (show e 2 < rlen 27 by show e 2 < 12; omega)), ?_, GoodL_mk a3 hS hV hcz (V45_tr w4 a5) (SK_tr SK_4 a6) (a7.trans (upS_ne (by omega))) (LD_lo hD (by omega) (by omega)) (AucR_lo hD hR (by omega)) (RowOK_up hO (show e 2 + 1 ≤ rlen 27 by show e 2 + 1 ≤ 12; omega)) (LRul_cg (fun j hj => loN_ne (by omega) (by omega)) hL) hK, by omega⟩
      unfold loN
      simp (disch := omega) only [f_X9_readLot, f_X9_readLot_j18, onO_ms, gA_ms, ldI_ms, stI_ms, dI_app, updI, nlit, neqF, nadd, nmul, upN_ne, a2, m_good s25, e1, ↓reduceIte, Option.bind_some]
theorem m_eltB (h5 : S 5 ≠ nI 0) : f_X9_readElement N m (mset h2 m (S) B1 D (dI (e)) H J L U Z W) = some (nI 0, (mset h2 m (S) B1 D (dI (e)) H J L U Z W)) := by
  have e0 : (nI 0 = nI 0) = True := eq_true rfl
  simp (disch := omega) only [f_X9_readElement, onO_ms, nlit, m_numberB h5, m_bad h5, e0, ↓reduceIte, Option.bind_some]
theorem m_j50B {v : Int32} (h5 : S 5 ≠ nI 0) : f_X9_readCard_j50 N m v (mset h2 m (S) B1 D (dI (e)) H J L U Z W) = some (mset h2 m (S) B1 D (dI (e)) H J L U Z W) := by
  have e0 : (nI 0 = nI 0) = True := eq_true rfl
  simp (disch := omega) only [f_X9_readCard_j50, onO_ms, nlit, m_eltB h5, m_numberB h5, m_bad h5, e0, ↓reduceIte, Option.bind_some]
theorem caP (hG : GrpAt h (b0 + 1)) (hNN : 2000 < N) (hT : TxtB B b len) (hT1 : TxtB B1 b len) (hA : At b len V S q) (hS : S 13 = nI 0 ∧ S 6 = -nI 1 ∧ S 14 = nI hp) (hV : V 2 = nI 0 ∧ V 11 = nI hp ∧ V 13 = -nI 1) (hcz : hp = 0 → cz = nI 0) (hD : LD e) (hR : AucR e T R X P Q) (hO : RowOK R) (hL : LRul b0 h0 h hp rl e K t) (hK : SKL S0 S) (hw : wdAt b len q 2) : SubL b0 h0 B b len S0 (fun S e => mset h2 m S B1 D (dI e) H J L U Z W) q (f_X7_takeCard N (b0 + 4) (cset h (b0 + 4) (b0 + 1) rl V B cz C T R X P Q)) (f_X9_readCard N m (mset h2 m (upd S 4 (nI (q + wdL 2))) B1 D (dI (e)) H J L U Z W)) := by
  obtain ⟨V1, q1, w1, w2, w3, w4⟩ := wordA (N := N) (h := h) (b0 := b0) (rl := rl) (cz := cz) (C := C) (T := T) (R := R) (X := X) (P := P) (Q := Q) hNN hT hA (by omega) hw
  have v12' := hV.1
  have e1 : (nI 1 = nI 0) = False := eq_false (by decide)
  have e0 : (nI 0 = nI 0) = True := eq_true rfl
  have h1 := hD.2.1.1
  have hn0 := hD.1
  have t9 := hR.1.2.1
  have t8 := hR.1.1
  have c5 : gI (cset h (b0 + 4) (b0 + 1) (rl) (V1) B (cz) (C) (T) (R) (X) (P) (Q)) (b0 + 4) 7 5 = some (nI q1) := by
    rw [cs_gI5, w2.2.2.1.2.1, w2.2.1]
  rcases numP (N := N) (h := aset h (b0 + 4 + 4) (b0 + 1) rl T R X P Q) (r0 := b0 + 4) (g := b0 + 1) (B := B) (cz := cz) (C := C) (V := V1) (S := upd S 4 (nI (q + wdL 2))) (h2 := h2) (m := m) (D := D) (E := dI e) (H := H) (J := J) (L := L) (U := U) (Z := Z) (W := W) (lo := 0) (hi1 := e 1) (hi := nI (e 1) - nI 1) hNN (by omega) (hi_cn (by omega)) (hi_mn (by omega)) hT hT1 w2 with ⟨V2, S2, x, a1, a2, a3, a4, a5, a6, a7⟩ | ⟨V2, S2, p, q2, v1, v2, v3, a1, a8, a2, a3, a4, a5, a6, a7, a9⟩
  · refine Or.inl ⟨_, S2, e, cc_0 (fun _ _ => cs_o7) (fun _ _ => cs_o7) w1 c5 cs_gA9 (by rw [cs_g9, t9]) a1, ?_, FailL_mk a3 a4 a5 ((w4 2 (by omega) (by omega) (by omega) (by omega) (by omega)).trans hV.1) a6 hO (LB_rul hL) hK (SKL_k (SK_tr SK_4 a7))⟩
    simp (disch := omega) only [f_X9_readCard, onO_ms, gA_ms, ldI_ms, dI_app, nlit, a2, m_bad a4, m_j50B a4, e0, ↓reduceIte, Option.bind_some]
  · have s25 : S2 5 = nI 0 := a3.2.2.2.2.2.2
    obtain ⟨p1, p2, p3, p4⟩ := hD.2.2.2.2.1 p v2
    obtain ⟨-, -, r3, r5, -⟩ := hR.2.2.2.2 p v2
    have hp5 : p < 5 := by omega
    have l3 := rlen_e hp5
    have l5 := rlen_b hp5
    have bd := cs_bidder (N := N) (h := h) (r0 := b0 + 4) (g := b0 + 1) (rl := rl) (V := V2) (B := B) (cz := cz) (C := C) (T := T) (R := R) (X := X) (P := P) (Q := Q) t9 h1 v2
    have g8 : gI (cset h (b0 + 4) (b0 + 1) (rl) (V2) B (cz) (C) (T) (R) (X) (P) (Q)) (b0 + 4) 7 8 = some (nI p) := by rw [cs_gI8, a8]
    by_cases h8 : e (11 + 19 * p + 1) = 8
    · obtain ⟨-, -, -, -, ⟨pm2, z1, z2, z3⟩, z4, z5⟩ := a3
      have rp := m_report (N := N) (h := h2) (m := m) (B := B1) (D := D) (E := dI e) (H := H) (J := J) (L := L) (U := U) (Z := Z) (W := W) (S := S2) (code := -nI 4) (off := q1) z3 z5
      have nb : mErr S2 pm2 (-nI 4) q1 5 ≠ nI 0 := by rw [mErr_5]; exact errs_ne.2.2.1
      refine Or.inl ⟨_, mErr S2 pm2 (-nI 4) q1, e, cc_full (fun _ _ => cs_o7) (fun _ _ => cs_o7) w1 c5 cs_gA9 (by rw [cs_g9, t9]) a1 cs_gA9 g8 (fun _ _ => cs_o0) bd (cs_gA10 hp5) (fun _ _ => cs_oR (isR_e hp5)) (fun _ _ => cs_o7) (cs_full (isR_e hp5) r3 (by rw [l3]; exact h8)) cs_fail, ?_, FailL_mk (V := V2) ?_ nb ?_ (((V45_tr w4 a5) 2 (by omega) (by omega) (by omega) (by omega) (by omega)).trans hV.1) VK_err hO (LB_rul hL) hK (SKL_k (SK_tr (SK_tr SK_4 a6) SK_err))⟩
      · simp (disch := omega) only [f_X9_readCard, onO_ms, gA_ms, gI_ms, ldI_ms, dI_app, nlit, a2, m_good s25, e1, nmul, nadd, h8, neqT, a9, rp, m_j50B nb, ↓reduceIte, Option.bind_some]
      · unfold errV
        rw [upS_ne (by omega), upS_eq, mErr_5]
      · unfold errV mErr
        rw [upS_eq, upS_eq]
    · have nf := cs_nfull (N := N) (h := h) (r0 := b0 + 4) (g := b0 + 1) (rl := rl) (V := V2) (B := B) (cz := cz) (C := C) (T := T) (X := X) (P := P) (Q := Q) (isR_e hp5) r3 (show e (11 + 19 * p + 1) < rlen (3 + 5 * p) by rw [l3]; omega)
      have hj : f_X9_readCard N m (mset h2 m (upd S 4 (nI (q + wdL 2))) B1 D (dI (e)) H J L U Z W) = f_X9_readCard_j50 N m (nI p) (mset h2 m (S2) B1 D (dI (e)) H J L U Z W) := by
        simp (disch := omega) only [f_X9_readCard, onO_ms, gA_ms, gI_ms, ldI_ms, dI_app, nlit, a2, m_good s25, e1, nmul, nadd, neqF, ↓reduceIte, Option.bind_some]
      rw [hj]
      rcases eltP (N := N) (h := h) (r0 := b0 + 4) (g := b0 + 1) (rl := rl) (B := B) (cz := cz) (C := C) (R := R) (X := X) (P := P) (Q := Q) (V := V2) (S := S2) (h2 := h2) (m := m) (D := D) (H := H) (J := J) (L := L) (U := U) (Z := Z) (W := W) hNN hG (by omega) hn0 t8 rfl hT hT1 a3 with ⟨V3, S3, x, c1, c2, c3, c4, c5', c6, c7⟩ | ⟨V3, S3, x, q3, x1, c1, c8, c2, c3, c4, c5', c6, c7⟩
      · refine Or.inl ⟨_, S3, e, cc_e0 (fun _ _ => cs_o7) (fun _ _ => cs_o7) w1 c5 cs_gA9 (by rw [cs_g9, t9]) a1 cs_gA9 g8 (fun _ _ => cs_o0) bd (cs_gA10 hp5) (fun _ _ => cs_oR (isR_e hp5)) (fun _ _ => cs_o7) nf c1, ?_, FailL_mk (V := V2) c3 c4 c5' (((V45_tr w4 a5) 2 (by omega) (by omega) (by omega) (by omega) (by omega)).trans hV.1) c6 hO (LB_rul hL) hK (SKL_k (SK_tr (SK_tr SK_4 a6) c7))⟩
        simp (disch := omega) only [f_X9_readCard_j50, onO_ms, nlit, c2, m_numberB c4, m_bad c4, e0, ↓reduceIte, Option.bind_some]
      · have s35 : S3 5 = nI 0 := c3.2.2.2.2.2.2
        have g8' : gI (cset h (b0 + 4) (b0 + 1) (rl) (V3) B (cz) (C) (T) (R) (X) (P) (Q)) (b0 + 4) 7 8 = some (nI x) := by rw [cs_gI8, c8]
        rcases numP (N := N) (h := aset h (b0 + 4 + 4) (b0 + 1) rl T R X P Q) (r0 := b0 + 4) (g := b0 + 1) (B := B) (cz := cz) (C := C) (V := V3) (S := S3) (h2 := h2) (m := m) (D := D) (E := dI e) (H := H) (J := J) (L := L) (U := U) (Z := Z) (W := W) (lo := 1) (hi1 := 1000) (hi := nI 999) hNN (by omega) (hi_c (by omega)) (hi_m (by omega)) hT hT1 c3 with ⟨V4, S4, y, d1, d2, d3, d4, d5, d6, d7⟩ | ⟨V4, S4, y, q4, y1, y2, y3, d1, d8, d2, d3, d4, d5, d6, d7, d9⟩
        · refine Or.inl ⟨_, S4, e, cc_b0 (fun _ _ => cs_o7) (fun _ _ => cs_o7) w1 c5 cs_gA9 (by rw [cs_g9, t9]) a1 cs_gA9 g8 (fun _ _ => cs_o0) bd (cs_gA10 hp5) (fun _ _ => cs_oR (isR_e hp5)) (fun _ _ => cs_o7) nf c1 (fun _ _ => cs_o7) g8' d1, ?_, FailL_mk (V := V3) d3 d4 d5 (((V45_tr (V45_tr w4 a5) c5') 2 (by omega) (by omega) (by omega) (by omega) (by omega)).trans hV.1) d6 hO (LB_rul hL) hK (SKL_k (SK_tr (SK_tr (SK_tr SK_4 a6) c6) d7))⟩
          simp (disch := omega) only [f_X9_readCard_j50, onO_ms, nlit, c2, d2, m_bad d4, e0, ↓reduceIte, Option.bind_some]
        · have s45 : S4 5 = nI 0 := d3.2.2.2.2.2.2
          have ei : idxN (e 0) (numN (e 0) x) = x := by unfold idxN; rw [elt_num hn0 x1]; rfl
          have hc8 : ∀ r, r < e 1 → e (11 + 19 * r + 1) ≤ 8 := fun r hr => (hD.2.2.2.2.1 r hr).2.1
          have ar := AucR_give (e := numN (e 0) x) (b := y) hR h1 v2 (by omega) hc8
          rw [ei] at ar
          have ro : RowOK (giveR R p (e (11 + 19 * p + 1))) := RowOK_up (RowOK_up hO (by omega)) (by omega)
          refine Or.inr ⟨_, S4, giveN e p (numN (e 0) x) y, q4, cc_b1 (y := nI y) (fun _ _ => cs_o7) (fun _ _ => cs_o7) w1 c5 cs_gA9 (by rw [cs_g9, t9]) a1 cs_gA9 g8 (fun _ _ => cs_o0) bd (cs_gA10 hp5) (fun _ _ => cs_oR (isR_e hp5)) (fun _ _ => cs_o7) nf c1 (fun _ _ => cs_o7) g8' d1 (by exact cs_gI8.trans (by rw [d8])) (fun _ _ => cs_o1 hp5) (cs_card hp5 r3 r5 (by omega)), ?_, GoodL_mk d3 hS hV hcz (V45_tr (V45_tr (V45_tr w4 a5) c5') d5) (SK_tr (SK_tr (SK_tr SK_4 a6) c6) d6) (d7.trans (c7.trans (a7.trans (upS_ne (by omega))))) (LD_gv hD v2 (by omega) ⟨x, x1, rfl⟩ (by omega)) ar ro (LRul_cg (fun j hj => giveN_out (by omega) (by omega) (by omega)) hL) hK, by omega⟩
          unfold giveN
          simp (disch := omega) only [f_X9_readCard_j50, f_X9_putCard, onO_ms, gA_ms, ldI_ms, stI_ms, dI_app, updI, nlit, nadd, nmul, upN_ne, c2, d2, m_good s45, e1, ↓reduceIte, Option.bind_some]
end M99996

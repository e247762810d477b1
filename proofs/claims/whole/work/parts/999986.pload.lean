/-! ===== load: the pair; the whole of the pure part ===== -/
section M999986
variable {h : zH} {b0 N K q z : Nat} {ea : Int32} {d : Nat → Nat} {t : Nat → Nat} {hd : Nat → Nat → Nat} {hK : Nat → Nat} {ht : Nat → Nat → Nat} {B : Nat → Int32}
theorem PR_load0 (hNN : 54400 < N) (hW : WC b0 h (d, K, t, (q, hd, hK, ht), ea, z, B)) (x : Int32) : PairW b0 (f_X8_load N b0 x) (f_X9_load N (b0 + 395) x) cSt h (d, K, t, (q, hd, hK, ht), ea, z, B) := by
  intro h2 th hM
  obtain ⟨S, B1, E, H, J, L, U, Z, W, e0, e1, e2, e3, e4, e5, e6, e7, e8⟩ := hM
  obtain ⟨⟨⟨hGo, hG, hS0⟩, hRd, hHan, hTg, hPl, hz7, hBy⟩, ⟨hA, hD, hC⟩, hH, hHG⟩ := id hW
  have hGo : Gob b0 h ea := hGo
  obtain ⟨V, C, cz, hV, hrs⟩ := Rdr_self hRd
  obtain ⟨rl, T, R, X, P, Q, hta, hO⟩ := hTg
  have hk : cset h (b0 + 4) (b0 + 1) rl V B cz C T R X P Q = h := by
    unfold cset
    rw [show b0 + 4 + 4 = b0 + 8 from rfl, hta, hrs]
  have o7 : Oh 7 (b0 + 4) h := by
    rw [← hk]
    exact fun _ _ => cs_o7
  have g2 : gI h (b0 + 4) 7 2 = some (nI z) := by
    rw [← hk]
    unfold cset
    simp only [rg_I, hV]
  rcases inP_cases x (z + 1) with ⟨len, hlen, rfl⟩ | ⟨hx, hx2⟩
  · have hT := TxtB_of (B := B) (len := len) (by omega) (fun k hk => hBy k (by omega))
    have hT1 : TxtB B1 (fun k => ux (B k)) len := ⟨hT.1, fun k hk => ⟨(hT.2 k hk).1, (e3 k (by omega)).trans (hT.2 k hk).2⟩⟩
    have rdl := readL (N := N) (h := h) (b0 := b0) (rl := rl) (V := V) (B := B) (cz := cz) (C := C) (T := T) (R := R) (X := X) (P := P) (Q := Q) (h2 := h2) (m := b0 + 395) (S := Sld S len) (e := e0N E) (D := dI d) (H := H) (J := J) (L := L) (U := U) (Z := Z) (W := W) (by omega) hS0 hG hT hT1 hV hz7 (by omega) hO (Sld_s S len) (fun j hj => if_pos hj)
    rw [hk] at rdl
    have ml := m_load_y (N := N) (h2 := h2) (m := b0 + 395) (S := S) (B1 := B1) (D := dI d) (E := E) (H := H) (J := J) (L := L) (U := U) (Z := Z) (W := W) (len := len) (by omega) e2 hz7 (by omega)
    rw [e0] at ml
    obtain ⟨sk0, sk2, sk11, sk19, sk20⟩ := Sld_k S len
    have nl : ¬ nI len < 0 := nI_pos (by omega)
    have hle : nI len ≤ nI z := of_eq_true (nleT (by omega) (by omega))
    obtain ⟨k, S', e', m1, hc⟩ := rdl
    rw [m1] at ml
    rcases hc with ⟨c1, hF⟩ | ⟨c1, q', hGL⟩
    · obtain ⟨h', rl', V', cz', C', T', R', X', P', Q', k1, f12, f5, f13, f2, fO, fB, fK⟩ := hF
      subst k1
      have mob : hM (cset h' (b0 + 4) (b0 + 1) rl' V' B cz' C' T' R' X' P' Q') b0 = hM h b0 := (cs_out (by omega)).trans (fB.1 _ (by omega))
      have gob := mob.trans hGo
      have kb := kf_bad (N := N) (h2 := h2) (m := b0 + 395) (S := S') (B1 := B1) (D := dI d) (e := e') (H := H) (J := J) (L := L) (U := U) (Z := Z) (W := W) f5
      refine ⟨.inl (S' 5), _, (d, K, t, (q, hd, hK, ht), V' 13, 0, B), cld_f nl (w_g1 hGo) o7 g2 hle c1 (gA_of' gob rfl) (fun _ _ => cs_o7) (by unfold cset; simp only [rg_I]) (pF_of' gob (by show 5 < 6; omega)) f5, WC_ld hW fB f2 fO, ⟨fun y y1 y2 => gob_out hS0 fB (by omega) (by omega), fB.2.1, fB.2.2.1, fB.2.2.2.1, fB.2.2.2.2⟩, S' 5, _, nI 0, ml.trans kb, ⟨upd S' 7 (S' 6), B1, dI e', H, J, L, U, Z, W, ms_ms, ?_, ?_, fun k hk => absurd hk (Nat.not_lt_zero k), ?_, ?_, e6, e7, ?_⟩, KeepM_ms, Or.inl ⟨_, rfl, rfl, rfl⟩⟩
      · rw [upS_ne (by omega), fK 0 (by omega) (by omega) (by omega) (by omega) (by omega) (by omega)]
        exact sk0
      · rw [upS_ne (by omega), fK 2 (by omega) (by omega) (by omega) (by omega) (by omega) (by omega)]
        exact sk2
      · rw [upS_eq]
        exact f13.symm
      · rw [upS_ne (by omega), fK 11 (by omega) (by omega) (by omega) (by omega) (by omega) (by omega), sk11]
        exact e5
      · rw [upS_ne (by omega), upS_ne (by omega), fK 20 (by omega) (by omega) (by omega) (by omega) (by omega) (by omega), fK 19 (by omega) (by omega) (by omega) (by omega) (by omega) (by omega), sk19, sk20]
        exact e8
    · obtain ⟨h', rl', V', cz', C', T', R', X', P', Q', hp, K', t', k1, hAt, hs4, hV', hcz, ⟨hLD, hAR, hRO⟩, hLR, fK⟩ := hGL
      subst k1
      have fB := LB_rul hLR
      have mob : hM (cset h' (b0 + 4) (b0 + 1) rl' V' B cz' C' T' R' X' P' Q') b0 = hM h b0 := (cs_out (by omega)).trans (fB.1 _ (by omega))
      have gob := mob.trans hGo
      have W2 := WC_ld (ea' := V' 13) (rl := rl') (cz := cz') (C := C') (T := T') (X := X') (P := P') (Q := Q') hW fB hV'.1 hRO
      obtain ⟨K1, t1, at1, cr1⟩ := AucAt_tg (V := V') (cz := cz') (C := C') (ea' := V' 13) hW hLR hLD hAR hRO
      generalize hk2 : hPut (cset h' (b0 + 4) (b0 + 1) rl' V' B cz' C' T' R' X' P' Q') b0 (.inr (8, [.ref (b0 + 1), .ref (b0 + 4), .ref (b0 + 46), .ref (b0 + 84), .ref (b0 + 390), .int (V' 13)])) = k2 at W2 at1
      have k2S : hS k2 = hS h' := by rw [← hk2]; rfl
      have k2N : hN k2 = hN h' := by rw [← hk2]; rfl
      have k2M : ∀ y, b0 + 395 ≤ y → y < b0 + 414 → hM k2 y = hM h y := fun y y1 y2 => by rw [← hk2]; exact gob_out hS0 fB (by omega) (by omega)
      obtain ⟨⟨⟨hGo2, -⟩, -⟩, ⟨hA2, -⟩, hH2, -⟩ := id W2
      have hGo2 : Gob b0 k2 (V' 13) := hGo2
      obtain ⟨h1, r1, r2, r3, r4, r5, r6⟩ := x_remember (N := N) (b0 := b0) (by omega) hD hH2 hA2
      have W3 := WC_rem W2 r2 r3 r4 r5
      have at2 : AucAt b0 h1 (b0 + 8) e' K1 t1 := AucAt_sim at1 (Nat.le_of_eq r5.symm) (fun y _ _ => Or.inl (r3 y (by omega))) (fun rl k hr hk => Or.inl (RAd_rem r3 r4 hr hk))
      have gd := GoodD_LD hLD
      have gd' := GoodD_eq (cpN_lo (e := e') (d := d)) gd
      have at3 := AucAt_eq (cpN_lo (e := e') (d := d)) gd at2
      have cr2 := CodeR_eq (cpN_lo (e := e') (d := d)) cr1
      obtain ⟨⟨⟨hGo3, -⟩, ⟨rv, rcz, rC, rd1, -⟩, -⟩, ⟨hA3, -⟩, -⟩ := id W3
      have hGo3 : Gob b0 h1 (V' 13) := hGo3
      obtain ⟨h4, p1, p2, p3, p4, p5⟩ := AucAt_copy (N := N) (by omega) (AAd_now (b0 := b0)) (AAd_target (b0 := b0)) (by omega) (AucAt_raw hA3) gd' at3
      have fA : FrA b0 h1 h4 := ⟨fun y hy => Or.inl (p3 y (by omega)), p4, p5, fun y _ _ => p3 y (by omega)⟩
      have W4 := WC_fra' W3 fA p2 gd' cr2
      have hGo4 : Gob b0 h4 (V' 13) := (p3 b0 (by omega)).trans hGo3
      have s5 : S' 5 = nI 0 := hAt.2.2.2.2.2.2
      have s11 : S' 11 = nI q := by rw [fK 11 (by omega) (by omega) (by omega) (by omega) (by omega) (by omega), sk11, e5]
      obtain ⟨H', ko, kr1, kr2⟩ := kf_ok (N := N) (h2 := h2) (m := b0 + 395) (S := S') (B1 := B1) (d := d) (e := e') (H := H) (J := J) (L := L) (U := U) (Z := Z) (W := W) (by omega) s5 e6 s11
      have hf : forg q = 0 ∧ q ≠ 8 ∨ forg q = 1 ∧ q = 8 := by
        unfold forg
        split
        · exact Or.inr ⟨rfl, by assumption⟩
        · exact Or.inl ⟨rfl, by assumption⟩
      have o4 : Oh 4 (b0 + 84) k2 := by
        obtain ⟨o, -, -, h9, -⟩ := hH2
        exact fun _ _ => onO_of' h9
      have vv : nI (cpN e' d 1) = nI (e' 1) := by rw [cpN_lo 1 (by omega)]
      refine ⟨.inl (nI (cpN e' d 1)), h4, (cpN e' d, K1, t1, (q - forg q + 1, remF hd d q, remF hK K q, remF ht t q), V' 13, 0, B), cld_y (Z := k2) (A := h1) (h3 := b0 + 84) (hn := b0 + 46) (tg := b0 + 8) nl (w_g1 hGo) o7 g2 hle c1 (gA_of' gob rfl) (fun _ _ => cs_o7) (by unfold cset; simp only [rg_I]) ((pF_of' gob (by show 5 < 6; omega)).trans (congrArg some hk2)) (w_g3 hGo2) (w_g2 hGo2) o4 r1 (w_g2 hGo3) (w_g1 hGo3) (fun _ _ => onO_of' rd1) (gA_of' rd1 rfl) (fun _ _ => onO_any (AucAt_raw hA3)) p1 (w_g2 hGo4) (w_T gd' p2).2.1, W4, ⟨fun y y1 y2 => ?_, ?_, ?_, ?_, ?_⟩, nI (e' 1), _, nI 0, ml.trans ko, ⟨upd (upd S' 7 (S' 6)) 11 (nI (q - forg q + 1)), B1, dI e', H', J, L, U, Z, W, ms_ms, ?_, ?_, fun k hk => absurd hk (Nat.not_lt_zero k), ?_, upS_eq _ _ _, by omega, ?_, ?_⟩, KeepM_ms, Or.inl ⟨_, rfl, rfl, vv.symm⟩⟩
      · rw [p3 y (by omega), r3 y (by omega), k2M y y1 y2]
      · rw [p4, r5, k2S]; exact fB.2.1
      · rw [p4, r5, k2S]; exact fB.2.2.1
      · rw [p5, r6, k2N]; exact fB.2.2.2.1
      · rw [p5, r6, k2N]; exact fB.2.2.2.2
      · rw [upS_ne (by omega), upS_ne (by omega), fK 0 (by omega) (by omega) (by omega) (by omega) (by omega) (by omega)]
        exact sk0
      · rw [upS_ne (by omega), upS_ne (by omega), fK 2 (by omega) (by omega) (by omega) (by omega) (by omega) (by omega)]
        exact sk2
      · rw [upS_ne (by omega), upS_eq, hs4.2.1]
        exact hV'.2.2.symm
      · intro k hk i hi
        unfold remF
        by_cases hkq : k = q - forg q
        · rw [if_pos hkq, hkq, kr1 i hi]
          rfl
        · rw [if_neg hkq, kr2 k i (by omega) hi]
          exact e7 _ (by omega) i hi
      · rw [upS_ne (by omega), upS_ne (by omega), upS_ne (by omega), upS_ne (by omega), fK 20 (by omega) (by omega) (by omega) (by omega) (by omega) (by omega), fK 19 (by omega) (by omega) (by omega) (by omega) (by omega) (by omega), sk19, sk20]
        exact e8
  · have ml := m_load_n (N := N) (h2 := h2) (m := b0 + 395) (S := S) (B1 := B1) (D := dI d) (E := E) (H := H) (J := J) (L := L) (U := U) (Z := Z) (W := W) e2 hz7 hx2
    rw [e0] at ml
    have cl : f_X8_load N b0 x h = some (.inr 1, zthr 1 h) := by
      rcases hx2 with hx2 | ⟨v, hv, hzv, rfl⟩
      · exact cld_n1 hx2
      · exact cld_n2 (nI_pos hv) (w_g1 hGo) o7 g2 (of_eq_false (nleF (by omega) (by omega)))
    refine ⟨.inr 1, zthr 1 h, _, cl, WC_thr hW, Keep_thr, nI 0, _, nI 1, ml, ⟨upd S 0 (nI 1), B1, E, H, J, L, U, Z, W, ms_ms, upS_eq _ _ _, ?_, e3, ?_, ?_, e6, e7, ?_⟩, KeepM_ms, Or.inr ⟨1, 1, rfl, rfl, by omega, by omega, rfl⟩⟩
    · rw [upS_ne (by omega)]; exact e2
    · rw [upS_ne (by omega)]; exact e4
    · rw [upS_ne (by omega)]; exact e5
    · rw [upS_ne (by omega), upS_ne (by omega)]; exact e8
theorem PR_load (hNN : 54400 < N) (h : zH) (s : St) (x : Int32) (hW : WC b0 h s) : PairW b0 (f_X8_load N b0 x) (f_X9_load N (b0 + 395) x) cSt h s := by
  obtain ⟨d, K, t, ⟨q, hd, hK, ht⟩, ea, z, B⟩ := s
  exact PR_load0 hNN hW x
end M999986

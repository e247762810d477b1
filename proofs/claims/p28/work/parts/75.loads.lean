/-! ===== load ===== -/
section M75
variable {h h' : zH} {b0 N K q z rl : Nat} {ea ea' cz : Int32} {d e : Nat → Nat} {t : Nat → Nat} {hd : Nat → Nat → Nat} {hK : Nat → Nat} {ht : Nat → Nat → Nat} {B V C T R P Q : Nat → Int32} {X : Nat → Nat → Int32}
theorem AucAt_tgK {hp : Nat} (hW : WC b0 h (d, K, t, (q, hd, hK, ht), ea, z, B)) {K' : Nat} {t' : Nat → Nat} (hL : LRul b0 h h' hp rl e K' t') (h01 : hp = 0 → K' = 1 ∧ t' = fun _ => 10000) (hD : LD e) (hR : AucR e T R X P Q) (hO : RowOK R) : AucAt b0 (hPut (cset (h') (b0 + 4) (b0 + 1) (rl) (V) B (cz) (C) (T) (R) (X) (P) (Q)) b0 (.inr (8, [.ref (b0 + 1), .ref (b0 + 4), .ref (b0 + 46), .ref (b0 + 84), .ref (b0 + 390), .int ea']))) (b0 + 8) e K' t' ∧ CodeR e K' t' := by
  obtain ⟨⟨⟨w1, w2, w3⟩, w4, w5, w6, w7, w8⟩, -⟩ := hW
  have self : aset (hPut (cset (h') (b0 + 4) (b0 + 1) (rl) (V) B (cz) (C) (T) (R) (X) (P) (Q)) b0 (.inr (8, [.ref (b0 + 1), .ref (b0 + 4), .ref (b0 + 46), .ref (b0 + 84), .ref (b0 + 390), .int ea']))) (b0 + 8) (b0 + 1) rl T R X P Q = hPut (cset (h') (b0 + 4) (b0 + 1) (rl) (V) B (cz) (C) (T) (R) (X) (P) (Q)) b0 (.inr (8, [.ref (b0 + 1), .ref (b0 + 4), .ref (b0 + 46), .ref (b0 + 84), .ref (b0 + 390), .int ea'])) := by
    rw [cs_comm]
    unfold aset
    rw [put_rs (by omega)]
    exact as_as
  have hB := LB_rul hL
  rcases hL with ⟨l1, l2, l3, l4⟩ | ⟨l1, l2, l3, l4, l5, l6, l7, l8, l9, l10⟩
  · obtain ⟨rfl, rfl⟩ := h01 l1
    refine ⟨⟨rl, T, R, X, P, Q, self, hR, hO, ?_, ?_, Or.inl ⟨0, by omega, by omega⟩⟩, CodeR_0.1, CodeR_0.2.1, CodeR_0.2.2.1, Or.inl ⟨rfl, rfl, l4⟩⟩
    · rw [l3]
      exact RuleAt_sim w7 (fun k hk => Or.inl (gob_out w3 hB (by omega) (by omega)))
    · show rl + 2 < hS h'
      have := hB.2.1
      omega
  · refine ⟨⟨rl, T, R, X, P, Q, self, hR, hO, ?_, ?_, Or.inr (Or.inr (by omega))⟩, l8, ⟨l9, l10⟩, l7, Or.inr l6⟩
    · exact RuleAt_congr l5 (fun k hk => by rw [hM_put, if_neg (by omega), cs_out (by omega)])
    · show rl + 2 < hS h'
      omega
theorem C_load {L : List Nat} {K' : Nat} {t' : Nat → Nat} (hNN : 54400 < N) (hW : WC b0 h (d, K, t, (q, hd, hK, ht), ea, z, B)) (hlz : L.length ≤ z) (hB : ∀ i, i < L.length → L.getD i 0 < 256 ∧ B i = nI (L.getD i 0)) (hP : PrsE L e K' t') : ∃ h' d', f_X8_load N b0 (nI L.length) h = some (.inl (nI (e 1)), h') ∧ WC b0 h' (d', K', t', (q - forg q + 1, remF hd d q, remF hK K q, remF ht t q), -nI 1, 0, B) ∧ (∀ j, j < 178 → j ≠ 10 → d' j = e j) ∧ FC (clW b0) 3 720 h h' := by
  obtain ⟨⟨⟨hGo, hG, hS0⟩, hRd, hHan, hTg, hPl, hz7, hBy⟩, ⟨hA, hD, hC⟩, hH, hHG⟩ := id hW
  have hGo : Gob b0 h ea := hGo
  obtain ⟨V, C, cz, hV, hrs⟩ := Rdr_self hRd
  obtain ⟨rl, T, R, X, P, Q, hta, hO⟩ := hTg
  have hk : cset h (b0 + 4) (b0 + 1) rl V B cz C T R X P Q = h := by
    unfold cset
    rw [show b0 + 4 + 4 = b0 + 8 from rfl, hta, hrs]
  have o7 : Oh 7 (b0 + 4) h := by
    rw [← hk]
    exact fun _ _ => cs_o7
  have g2 : gI h (b0 + 4) 7 2 = some (nI z) := by
    rw [← hk]
    unfold cset
    simp only [rg_I, hV]
  have hT : TxtB B (fun i => L.getD i 0) L.length := ⟨by omega, hB⟩
  obtain ⟨k, e', hp, c1, hGL, h01, he'⟩ := hP N b0 h rl V B cz C T R X P Q (fun i => L.getD i 0) z (by omega) hS0 hG hT hV hz7 hlz hO ⟨by omega, fun i hi => by rw [Nat.zero_add]⟩
  rw [hk] at c1
  have nl : ¬ nI L.length < 0 := nI_pos (by omega)
  have hle : nI L.length ≤ nI z := of_eq_true (nleT (by omega) hlz)
  obtain ⟨h', rl', V', cz', C', T', R', X', P', Q', k1, hAt, hV', hcz, ⟨hLD, hAR, hRO⟩, hLR⟩ := hGL
  subst k1
  have fB := LB_rul hLR
  have mob : hM (cset h' (b0 + 4) (b0 + 1) rl' V' B cz' C' T' R' X' P' Q') b0 = hM h b0 := (cs_out (by omega)).trans (fB.1 _ (by omega))
  have gob := mob.trans hGo
  have W2 := WC_ld (ea' := V' 13) (rl := rl') (cz := cz') (C := C') (T := T') (X := X') (P := P') (Q := Q') hW fB hV'.1 hRO
  obtain ⟨at1, cr1⟩ := AucAt_tgK (V := V') (cz := cz') (C := C') (ea' := V' 13) hW hLR h01 hLD hAR hRO
  have k2lo : ∀ y, y < b0 → hM (hPut (cset h' (b0 + 4) (b0 + 1) rl' V' B cz' C' T' R' X' P' Q') b0 (.inr (8, [.ref (b0 + 1), .ref (b0 + 4), .ref (b0 + 46), .ref (b0 + 84), .ref (b0 + 390), .int (V' 13)]))) y = hM h y := fun y hy => by
    rw [hM_put, if_neg (by omega), cs_out (by omega)]
    exact fB.1 y (by omega)
  have k2hi : ∀ y, b0 + 395 ≤ y → y < hS h → hM (hPut (cset h' (b0 + 4) (b0 + 1) rl' V' B cz' C' T' R' X' P' Q') b0 (.inr (8, [.ref (b0 + 1), .ref (b0 + 4), .ref (b0 + 46), .ref (b0 + 84), .ref (b0 + 390), .int (V' 13)]))) y = hM h y := fun y y1 y2 => gob_out hS0 fB (by omega) y2
  generalize hk2 : hPut (cset h' (b0 + 4) (b0 + 1) rl' V' B cz' C' T' R' X' P' Q') b0 (.inr (8, [.ref (b0 + 1), .ref (b0 + 4), .ref (b0 + 46), .ref (b0 + 84), .ref (b0 + 390), .int (V' 13)])) = k2 at W2 at1 k2lo k2hi
  have k2S : hS k2 = hS h' := by rw [← hk2]; rfl
  have k2N : hN k2 = hN h' := by rw [← hk2]; rfl
  obtain ⟨⟨⟨hGo2, -⟩, -⟩, ⟨hA2, -⟩, hH2, -⟩ := id W2
  have hGo2 : Gob b0 k2 (V' 13) := hGo2
  obtain ⟨h1, r1, r2, r3, r4, r5, r6⟩ := x_remember (N := N) (b0 := b0) (by omega) hD hH2 hA2
  have W3 := WC_rem W2 r2 r3 r4 r5
  have at2 : AucAt b0 h1 (b0 + 8) e' K' t' := AucAt_sim at1 (Nat.le_of_eq r5.symm) (fun y _ _ => Or.inl (r3 y (by omega))) (fun rl k hr hk => Or.inl (RAd_rem r3 r4 hr hk))
  have gd := GoodD_LD hLD
  have gd' := GoodD_eq (cpN_lo (e := e') (d := d)) gd
  have at3 := AucAt_eq (cpN_lo (e := e') (d := d)) gd at2
  have cr2 := CodeR_eq (cpN_lo (e := e') (d := d)) cr1
  obtain ⟨⟨⟨hGo3, -⟩, ⟨rv, rcz, rC, rd1, -⟩, -⟩, ⟨hA3, -⟩, -⟩ := id W3
  have hGo3 : Gob b0 h1 (V' 13) := hGo3
  obtain ⟨h4, p1, p2, p3, p4, p5⟩ := AucAt_copy (N := N) (by omega) (AAd_now (b0 := b0)) (AAd_target (b0 := b0)) (by omega) (AucAt_raw hA3) gd' at3
  have fA : FrA b0 h1 h4 := ⟨fun y hy => Or.inl (p3 y (by omega)), p4, p5, fun y _ _ => p3 y (by omega)⟩
  have W4 := WC_fra' W3 fA p2 gd' cr2
  have hGo4 : Gob b0 h4 (V' 13) := (p3 b0 (by omega)).trans hGo3
  have o4 : Oh 4 (b0 + 84) k2 := by
    obtain ⟨o, -, -, h9, -⟩ := hH2
    exact fun _ _ => onO_of' h9
  have vv : nI (cpN e' d 1) = nI (e 1) := by rw [cpN_lo 1 (by omega), he' 1 (by omega) (by omega)]
  rw [hV'.2.2] at W4
  refine ⟨h4, cpN e' d, ?_, W4, fun j hj h10 => by rw [cpN_lo j (by omega), he' j hj h10], ⟨?_, ?_⟩, ⟨?_, ?_⟩, fun y y1 y2 => ?_⟩
  · have := cld_y (Z := k2) (A := h1) (h3 := b0 + 84) (hn := b0 + 46) (tg := b0 + 8) nl (w_g1 hGo) o7 g2 hle c1 (gA_of' gob rfl) (fun _ _ => cs_o7) (by unfold cset; simp only [rg_I]) ((pF_of' gob (by show 5 < 6; omega)).trans (congrArg some hk2)) (w_g3 hGo2) (w_g2 hGo2) o4 r1 (w_g2 hGo3) (w_g1 hGo3) (fun _ _ => onO_of' rd1) (gA_of' rd1 rfl) (fun _ _ => onO_any (AucAt_raw hA3)) p1 (w_g2 hGo4) (w_T gd' p2).2.1
    rw [vv] at this
    exact this
  · rw [p4, r5, k2S]; exact fB.2.1
  · rw [p4, r5, k2S]; exact fB.2.2.1
  · rw [p5, r6, k2N]; exact fB.2.2.2.1
  · rw [p5, r6, k2N]; exact fB.2.2.2.2
  · refine Or.inl ?_
    have hy : y < b0 ∨ b0 + 395 ≤ y := by
      by_cases h9 : y < b0
      · exact Or.inl h9
      · exact Or.inr (Classical.byContradiction fun h8 => y2 ⟨by omega, by omega⟩)
    rw [p3 y (by omega), r3 y (by omega)]
    rcases hy with hy | hy
    · exact k2lo y hy
    · exact k2hi y hy y1
theorem C_load1 (hW : WC b0 h (d, K, t, (q, hd, hK, ht), ea, 0, B)) : CT b0 (f_X8_load N b0 (nI 1)) h (.inr 1) (d, K, t, (q, hd, hK, ht), ea, 0, B) := by
  obtain ⟨⟨⟨hGo, hG, hS0⟩, hRd, hHan, hTg, hPl, hz7, hBy⟩, -⟩ := id hW
  have hGo : Gob b0 h ea := hGo
  obtain ⟨V, C, cz, hV, hrs⟩ := Rdr_self hRd
  have o7 : Oh 7 (b0 + 4) h := by
    rw [← hrs]
    exact fun _ _ => r_o7
  have g2 : gI h (b0 + 4) 7 2 = some (nI 0) := by
    rw [← hrs]
    simp only [rg_I, hV]
  exact C_thr hW (cld_n2 (nI_pos (by omega)) (w_g1 hGo) o7 g2 (of_eq_false (nleF (by omega) (by omega))))
end M75

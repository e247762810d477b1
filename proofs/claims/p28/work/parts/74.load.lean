/-! ===== the class loads the law's text ===== -/
section M74
variable {h h0 : zH} {b0 rl N : Nat} {V B C : Nat → Int32} {cz : Int32} {T R : Nat → Int32} {X : Nat → Nat → Int32} {P Q : Nat → Int32} {b e t : Nat → Nat} {len q hp K v : Nat} {k : zH}
theorem wd_nb {i : Nat} {L : List Nat} (hi : i < 9) (hs : SegAt b len q (wdN.getD i [] ++ L)) : skp b len q = q ∧ tkK b len q ≠ 0 := by
  obtain ⟨h1, -⟩ := SegAt_app hs
  obtain ⟨h2, h3⟩ := h1
  have hp := (wd_ln hi).2.2
  have h4 := h3 0 hp
  have h5 := (wd_ch (i := i) (j := 0) hi hp).2
  have hb : isLt (b q) = true := by rw [show b q = wdC i 0 from h4]; exact h5
  have h2' : q + wdL i ≤ len := h2
  have hq : q < len := by omega
  refine ⟨skp_nb hq (fun he => by rw [he] at hb; exact absurd hb (by decide)), ?_⟩
  unfold tkK
  rw [if_neg (by omega), if_neg (isDg_lt hb), if_pos hb]
  omega
theorem bin0 {n : Nat} {C : List Nat} {Y : Nat → List Nat} (hx : NodeX n C Y) : Y 0 = Y 1 := by
  have lf : ∀ (C : List Nat) (Y : Nat → List Nat), LeafX C Y → Y 0 = Y 1 := by
    rintro C Y ⟨v, ⟨-, -, h3⟩ | ⟨-, -, h3⟩⟩ <;> rw [h3, h3]
  cases n with
  | zero => exact lf C Y hx
  | succ n =>
    rcases hx with hx | ⟨o, Cl, Cr, Xl, Xr, h1, h2, h3, rfl, h5⟩
    · exact lf C Y hx
    · rw [h5, h5]
      unfold binX
      by_cases ho : o < 2
      · rw [if_pos ho, if_neg (by omega), if_neg (by omega)]
      · rw [if_neg ho, if_neg (by omega), if_neg (by omega)]
theorem CdM_ex {e t : Nat → Nat} (h0 : e 10 = 0) : ∀ K, ∃ e', CdM e' t K ∧ ∀ j, j < 178 → j ≠ 10 → e' j = e j
  | 0 => ⟨e, ⟨h0, fun k hk => absurd hk (Nat.not_lt_zero k)⟩, fun _ _ _ => rfl⟩
  | K + 1 => by
    obtain ⟨e', h1, h2⟩ := CdM_ex (e := e) (t := t) h0 K
    have et : upN t K (t K) = t := by
      funext j
      by_cases hj : j = K
      · rw [hj, upN_eq]
      · rw [upN_ne hj]
    by_cases hc : 10004 ≤ t K
    · have := CdM_op h1 hc
      rw [et] at this
      exact ⟨_, this, fun j hj h9 => by rw [upN_ne h9, upN_ne (by omega)]; exact h2 j hj h9⟩
    · have := CdM_va (w := if t K < 10000 then 0 else 1) (x := if t K < 10000 then t K else t K - 10000) h1 (show t K < 10004 by omega) ⟨fun h9 => ⟨if_pos h9, if_pos h9⟩, fun h9 => ⟨if_neg (by omega), if_neg (by omega)⟩⟩
      rw [et] at this
      exact ⟨_, this, fun j hj h9 => by rw [upN_ne h9, upN_ne (by omega), upN_ne h9, upN_ne (by omega)]; exact h2 j hj h9⟩
theorem st_pr {n : Nat} {Cc : List Nat} {Y : Nat → List Nat} (hNN : 2000 < N) (hT : TxtB B b len) (hb : b0 + 395 ≤ hS h0) (hG : GoodK b0 h0 B b len k e q 0 K t) (hx : NodeX n Cc Y) (hn : n ≤ 2) {t' : Nat → Nat} (hc : CodAt t' 0 Cc) (hs : SegAt b len q (prX (Y 0))) : ∃ k' e', f_X7_takeStatement N (b0 + 4) k = some (nI 1, k') ∧ GoodK b0 h0 B b len k' e' (skp b len (q + (prX (Y 0)).length)) 1 Cc.length t' ∧ ∀ j, j < 178 → j ≠ 10 → e' j = e j := by
  obtain ⟨h, rl, V, cz, C, T, R, X, P, Q, rfl, hA, hV, hcz, ⟨hD, hR, hO⟩, hL⟩ := hG
  obtain ⟨hh, hrl, h10⟩ : h = h0 ∧ rl = b0 + 43 ∧ e 10 = 0 := by
    rcases hL with ⟨-, a, b, c⟩ | ⟨a, -⟩
    · exact ⟨a, b, c⟩
    · exact absurd a (by omega)
  subst hh
  obtain ⟨w1, w2, w3⟩ := wd_bl (i := 4) (by omega) hs
  obtain ⟨x1, x2⟩ := SegAt_app w3
  obtain ⟨y1, x3⟩ := SegAt_cons x2
  obtain ⟨y2, -⟩ := SegAt_cons x3
  have sq0 := nodeX_nb hx x1
  have sq2 : skp b len (q + wdL 4 + 1 + (Y 0).length + 1) = q + wdL 4 + 1 + (Y 0).length + 1 := skp_nb y2.1 (by rw [y2.2]; omega)
  have sq1 : skp b len (q + wdL 4 + 1 + (Y 0).length) = q + wdL 4 + 1 + (Y 0).length + 1 := (skp_b y1.1 y1.2).trans sq2
  have hA' : Ac b len (upd V 11 (nI 1)) q := ⟨hA.1, hA.2.1, TokAt_11 hA.2.2.1, (upS_ne (by omega)).trans hA.2.2.2⟩
  obtain ⟨V1, a1, a2, a3⟩ := wordK (N := N) (h := h) (b0 := b0) (rl := rl) (cz := cz) (C := C) (T := T) (R := R) (X := X) (P := P) (Q := Q) hNN hT hA' (by omega) w1
  rw [skp_b w2.1 w2.2, sq0] at a2
  have w4' : ∀ k, k ≠ 4 → k ≠ 5 → k ≠ 6 → k ≠ 7 → k ≠ 8 → k ≠ 11 → V1 k = V k := fun k k4 k5 k6 k7 k8 k11 => (a3 k k4 k5 k6 k7 k8).trans (upS_ne k11)
  have pp : pF (cset h (b0 + 4) (b0 + 1) rl V B cz C T R X P Q) (b0 + 4) 7 11 (.int (nI 1)) = some (cset (h) (b0 + 4) (b0 + 1) (rl) (upd V 11 (nI 1)) B (cz) (C) (T) (R) (X) (P) (Q)) := rp_11 _
  have pk1 : PKs b0 h rl B T R X P Q b len t' V1 (cset h (b0 + 4) (b0 + 1) rl V1 B cz C T R X P Q) (q + wdL 4 + 1) 0 := ⟨V1, cz, C, rfl, a2, fun _ _ _ _ _ _ => rfl, hcz rfl, fun j hj => absurd hj (Nat.not_lt_zero j)⟩
  obtain ⟨⟨wf1, wf2⟩, wf3, wf4⟩ := node_wf (t := t') n Cc Y hx 0 0 hc rfl (by omega)
  have p2n : 2 ^ (n + 1) ≤ 8 := by
    rcases (show n = 0 ∨ n = 1 ∨ n = 2 by omega) with rfl | rfl | rfl <;> decide
  have hb0 := bin0 hx
  rw [hb0] at x1 sq1 sq2 y1 y2
  obtain ⟨k2, i, hi, f1, f2⟩ := (expr_ok (N := N) (b0 := b0) (h := h) (rl := rl) (V0 := V1) (T := T) (R := R) (X := X) (P := P) (Q := Q) (t := t') hNN hT n Cc Y hx 7 (by omega)).2.2 0 (q + wdL 4 + 1) 0 _ x1 (Fol_c y1 ⟨rfl, rfl⟩) (by rw [sq1]; exact sg_no y2.2 (by omega)) (by rw [sq1]; exact sg_no y2.2 (by omega)) hc (by omega) (by omega) pk1
  rw [sq1, Nat.zero_add] at f2
  have ts := f1.trans (sum_end hNN hT f2 (by omega) (sg_no y2.2 (by omega)) (sg_no y2.2 (by omega)))
  obtain ⟨V2, cz2, C2, rfl, hA2, hV2, hcz2, hC2⟩ := f2
  have ru := cs_rule (N := N) (h := h) (r0 := b0 + 4) (g := b0 + 1) (rl := rl) (V := V2) (B := B) (C := C2) (T := T) (R := R) (X := X) (P := P) (Q := Q) hcz2 (show Cc.length < 700 by omega) (by omega)
  have tp := cpr_1 (N := N) (fun _ _ => r_o7) (fun _ _ => r_o7) pp a1 ts ru
  obtain ⟨V3, d1, d2, d3, -⟩ := signK (N := N) (h := ruB h Cc.length C2) (b0 := b0) (rl := hS h) (cz := cz2) (C := C2) (T := T) (R := R) (X := X) (P := P) (Q := Q) (c := 59) hNN hT hA2 ⟨rfl, rfl⟩ (by omega) y2
  obtain ⟨e', c1, c2⟩ := CdM_ex (e := e) (t := t') h10 Cc.length
  have he : ∀ j, j < 178 → j ≠ 9 → j ≠ 10 → e' j = e j := fun j j1 _ j3 => c2 j j1 j3
  have mp := mPos_le t' Cc.length
  have hl : q + wdL 4 + 1 + (Y 1).length + 1 + 1 = q + (prX (Y 0)).length := by
    rw [hb0]
    unfold prX
    rw [List.length_append, List.length_cons, List.length_append]
    show _ = q + (wdL 4 + ((Y 1).length + 2 + 1))
    omega
  rw [hl] at d2
  have hv3 := V45_tr hV2 d3
  refine ⟨_, e', ?_, ⟨ruB h Cc.length C2, hS h, V3, cz2, C2, T, R, X, P, Q, rfl, d2, ⟨?_, ?_, ?_⟩, fun h9 => absurd h9 (by omega), ⟨LD_congr he hD, AucR_cg he hD hR, hO⟩, Or.inr ⟨rfl, LB_ruB (by omega), by rw [ruB_S]; omega, rfl, RuleAt_ruB hC2, c1, fun j hj => wf2 j (Nat.zero_le _) (by omega), wf3, by omega, by omega⟩⟩, c2⟩
  · rw [cst_4 (fun _ _ => cs_o7) (isW_n hNN (by omega) hT hA (notW (i := 4) (by omega) (by omega) (by decide) w1 (by decide))) (isW_n hNN (by omega) hT hA (notW (i := 4) (by omega) (by omega) (by decide) w1 (by decide))) (isW_n hNN (by omega) hT hA (notW (i := 4) (by omega) (by omega) (by decide) w1 (by decide))) (isW_y hNN (by omega) hT hA w1) (by unfold cset; simp only [rg_I, hV.2.1]), tp, Option.bind_some]
    exact tlC_v (fun _ _ => cs_o7) d1 (Or.inr rfl)
  · exact (hv3 2 (by omega) (by omega) (by omega) (by omega) (by omega)).trans ((w4' 2 (by omega) (by omega) (by omega) (by omega) (by omega) (by omega)).trans hV.1)
  · exact (hv3 11 (by omega) (by omega) (by omega) (by omega) (by omega)).trans ((a3 11 (by omega) (by omega) (by omega) (by omega) (by omega)).trans (upS_eq _ _ _))
  · exact (hv3 13 (by omega) (by omega) (by omega) (by omega) (by omega)).trans ((w4' 13 (by omega) (by omega) (by omega) (by omega) (by omega) (by omega)).trans hV.2.2)
/-- the text L is read as far as the auction e -/
def Prs (L : List Nat) (e : Nat → Nat) (hp K : Nat) (t : Nat → Nat) (n : Nat) : Prop := ∀ (N b0 : Nat) (h0 : zH) (rl : Nat) (V B : Nat → Int32) (cz : Int32) (C T R : Nat → Int32) (X : Nat → Nat → Int32) (P Q : Nat → Int32) (b : Nat → Nat) (len z : Nat), 2000 < N → b0 + 395 ≤ hS h0 → GrpAt h0 (b0 + 1) → TxtB B b len → V 2 = nI z → z ≤ 700 → len ≤ z → RowOK R → SegAt b len 0 L → ∃ k, f_X7_read N (b0 + 4) (nI len) (cset h0 (b0 + 4) (b0 + 1) rl V B cz C T R X P Q) = f_X7_read_l68 N (b0 + 4) (N - n) (nI n) k ∧ GoodK b0 h0 B b len k e (skp b len L.length) hp K t
theorem gr_nm : wdL 0 = 5 := rfl
theorem Prs_gr {n : Nat} (hn : inN n) : Prs (grX n) (upN (fun _ => 0) 0 n) 0 1 (fun _ => 10000) 0 := by
  intro N b0 h rl V B cz C T R X P Q b len z hNN hS0 hG0 hT hV2 hz7 hlz hO hs
  have hl := hT.1
  have hn6 := inN_lt hn
  obtain ⟨T', R', st, ⟨t8, t9, t10, t11, t12, t13, t14⟩, rr, ro⟩ := x_start (N := N) (h := rset h (b0 + 4) (b0 + 1) V B cz C) (a := b0 + 4 + 4) (g := b0 + 1) (rl := rl) (T := T) (R := R) (X := X) (P := P) (Q := Q)
  have st' : f_X0_start N (b0 + 4 + 4) (cset h (b0 + 4) (b0 + 1) rl V B cz C T R X P Q) = some (cset (h) (b0 + 4) (b0 + 1) (b0 + 4 + 4 + 35) (V) B (cz) (C) (T') (R') (X) (P) (Q)) := by
    rw [cs_comm, st, cs_comm]
  have mi := x_min (N := N) (x := len) (y := z) (k := (cset (h) (b0 + 4) (b0 + 1) (b0 + 4 + 4 + 35) (V) B (cz) (C) (T') (R') (X) (P) (Q))) (by omega) (by omega)
  rw [Nat.min_eq_left hlz] at mi
  have ma := x_max (N := N) (x := 0) (y := len) (k := (cset (h) (b0 + 4) (b0 + 1) (b0 + 4 + 4 + 35) (V) B (cz) (C) (T') (R') (X) (P) (Q))) (by omega) (by omega)
  rw [Nat.max_eq_right (Nat.zero_le _)] at ma
  have g2 : gI (cset (h) (b0 + 4) (b0 + 1) (b0 + 4 + 4 + 35) (V) B (cz) (C) (T') (R') (X) (P) (Q)) (b0 + 4) 7 2 = some (nI z) := by
    unfold cset
    simp only [rg_I, hV2]
  have cl : f_X6_clear N (b0 + 4 + 2) (cset (h) (b0 + 4) (b0 + 1) (b0 + 4 + 4 + 35) (upd (upd (upd V 3 (nI len)) 2 (nI 0)) 6 (nI 0)) B (cz) (C) (T') (R') (X) (P) (Q)) = some (cset (h) (b0 + 4) (b0 + 1) (b0 + 4 + 4 + 35) (upd (upd (upd V 3 (nI len)) 2 (nI 0)) 6 (nI 0)) B (nI 0) (C) (T') (R') (X) (P) (Q)) := by
    unfold f_X6_clear
    rw [show (0 : Int32) = nI 0 from rfl]
    unfold cset
    rw [rp_z, Option.bind_some]
  obtain ⟨V1, x1, x2, x3⟩ := x_advance (N := N) (h := aset h (b0 + 4 + 4) (b0 + 1) (b0 + 4 + 4 + 35) T' R' X P Q) (q := b0 + 4) (g := b0 + 1) (V := upd (upd (upd (upd (upd (upd V 3 (nI len)) 2 (nI 0)) 6 (nI 0)) 11 (nI 0)) 12 (nI 0)) 13 (-nI 1)) (B := B) (cz := nI 0) (C := C) (p := 0) (by omega) hT (by simp (disch := omega) only [upS_ne, upS_eq]) (by simp (disch := omega) only [upS_ne, upS_eq]) (Nat.zero_le _)
  have v2 : V1 2 = nI 0 := by rw [x3 2 (by omega) (by omega) (by omega) (by omega)]; simp (disch := omega) only [upS_ne, upS_eq]
  have v11 : V1 11 = nI 0 := by rw [x3 11 (by omega) (by omega) (by omega) (by omega)]; simp (disch := omega) only [upS_ne, upS_eq]
  have v13 : V1 13 = -nI 1 := by rw [x3 13 (by omega) (by omega) (by omega) (by omega)]; simp (disch := omega) only [upS_eq]
  have v12 : V1 12 = nI 0 := by rw [x3 12 (by omega) (by omega) (by omega) (by omega)]; simp (disch := omega) only [upS_ne, upS_eq]
  have s0 := (wd_nb (i := 0) (by omega) hs).1
  have hA : Ac b len V1 0 := ⟨Nat.zero_le _, s0, x2, v12⟩
  obtain ⟨w1, w2, w3⟩ := wd_bl (i := 0) (by omega) hs
  obtain ⟨n1, n2, n3, n4⟩ := sg_num (c := 59) (show n < 100000 by omega) (by decide) w3
  obtain ⟨V2, a1, a2, a3⟩ := wordK (N := N) (h := h) (b0 := b0) (rl := b0 + 4 + 4 + 35) (cz := nI 0) (C := C) (T := T') (R := R') (X := X) (P := P) (Q := Q) hNN hT hA (by omega) w1
  rw [skp_b w2.1 w2.2, n1] at a2
  obtain ⟨V3, c1, c2, c3, c8⟩ := numK2 (N := N) (h := h) (b0 := b0) (rl := b0 + 4 + 4 + 35) (cz := nI 0) (C := C) (T := T') (R := R') (X := X) (P := P) (Q := Q) (lo := 2) (hi1 := 6) (hi := nI 5) hNN (by omega) (hi_c (by omega)) hT a2 n2 hn6.1 hn6.2
  rw [skp_nb n3.1 (by rw [n3.2]; omega)] at c2
  obtain ⟨V4, d1, d2, d3, -⟩ := signK (N := N) (h := h) (b0 := b0) (rl := b0 + 4 + 4 + 35) (cz := nI 0) (C := C) (T := upd T' 8 (nI n)) (R := R') (X := X) (P := P) (Q := Q) (c := 59) hNN hT c2 ⟨rfl, rfl⟩ (by omega) ⟨n3.1, n3.2⟩
  have g8 : gI (cset (h) (b0 + 4) (b0 + 1) (b0 + 4 + 4 + 35) (V3) B (nI 0) (C) (T') (R') (X) (P) (Q)) (b0 + 4) 7 8 = some (nI n) := by rw [cs_gI8, c8]
  have tg := cg_2 (N := N) (fun _ _ => cs_o7) (fun _ _ => cs_o7) (isW_y hNN (by omega) hT hA w1) a1 c1 cs_gA9 g8 cs_p8 (fun _ _ => cs_o7) d1 (Or.inr rfl)
  have rd := crd cs_gA9 (fun _ _ => cs_o0) st' g2 mi ma (rp_3 _) (rp_2 _) (rp_6 _) rg_A.2.2.2.1 (fun _ _ => r_o6) cl (rp_11 _) (rp_12 _) (rp_13 _) (fun _ _ => r_o7) x1 (fun _ _ => r_o7) tg
  have hz : ∀ j, j < 1378 → (fun _ => 0 : Nat → Nat) j = 0 := fun _ _ => rfl
  have hll : 0 + wdL 0 + 1 + (digX n).length + 1 = (grX n).length := by
    unfold grX
    rw [List.length_append, List.length_cons, List.length_append]
    show _ = wdL 0 + ((digX n).length + 1 + 1)
    omega
  rw [hll] at d2
  refine ⟨_, rd.trans (if_neg (show ¬ nI 1 = (0 : Int32) from i1ne)), GoodK_mk (C := C) (V := V1) d2 ⟨v2, v11, v13⟩ (fun _ => rfl) (V45_tr (V45_tr a3 c3) d3) (LD_st hz hn) (AucR_st hz ⟨(upS_ne (by omega)).trans t9, (upS_ne (by omega)).trans t10, (upS_ne (by omega)).trans t11, (upS_ne (by omega)).trans t12, (upS_ne (by omega)).trans t13, (upS_ne (by omega)).trans t14⟩ (upS_eq _ _ _) rr) (ro hO) (Or.inl ⟨rfl, rfl, by omega, by rw [upN_ne (by omega)]⟩)⟩
theorem Ac_4 (hG : GoodK b0 h0 B b len k e q hp K t) : gI k (b0 + 4) 7 12 = some (nI 0) ∧ gI k (b0 + 4) 7 4 = some (nI (tkK b len q)) ∧ Oh 7 (b0 + 4) k := by
  obtain ⟨h, rl, V, cz, C, T, R, X, P, Q, rfl, ⟨hq, sq, ⟨t3, t5, t4, t6, t7⟩, v12⟩, -⟩ := hG
  rw [sq] at t4
  exact ⟨cs_gI12.trans (by rw [v12]), cs_gI4.trans (by rw [t4]), fun _ _ => cs_o7⟩
/-- a statement more -/
theorem Prs_st {L S : List Nat} {e' : Nat → Nat} {hp' K' n i : Nat} {t' : Nat → Nat} (hP : Prs L e hp K t n) (hn : n < 600) (hi : i < 9) (hSx : ∃ S', S = wdN.getD i [] ++ S') (hst : ∀ (N b0 : Nat) (h0 : zH) (B : Nat → Int32) (b : Nat → Nat) (len : Nat) (k : zH) (q : Nat), 2000 < N → b0 + 395 ≤ hS h0 → GrpAt h0 (b0 + 1) → TxtB B b len → GoodK b0 h0 B b len k e q hp K t → SegAt b len q S → ∃ k', f_X7_takeStatement N (b0 + 4) k = some (nI 1, k') ∧ GoodK b0 h0 B b len k' e' (skp b len (q + S.length)) hp' K' t') : Prs (L ++ S) e' hp' K' t' (n + 1) := by
  intro N b0 h0 rl V B cz C T R X P Q b len z hNN hS0 hG0 hT hV2 hz7 hlz hO hs
  obtain ⟨s1, s2⟩ := SegAt_app hs
  rw [Nat.zero_add] at s2
  obtain ⟨k, r1, r2⟩ := hP N b0 h0 rl V B cz C T R X P Q b len z hNN hS0 hG0 hT hV2 hz7 hlz hO s1
  obtain ⟨S', hS'⟩ := hSx
  have nb := wd_nb (i := i) hi (by rw [← hS']; exact s2)
  rw [nb.1] at r2
  obtain ⟨k', u1, u2⟩ := hst N b0 h0 B b len k L.length hNN hS0 hG0 hT r2 s2
  obtain ⟨a12, a4, a7⟩ := Ac_4 r2
  have k4 := tkK_lt b len L.length
  obtain ⟨f, hf⟩ : ∃ f, N - n = f + 1 := ⟨N - n - 1, by omega⟩
  refine ⟨k', ?_, by rw [List.length_append]; exact u2⟩
  rw [r1, hf, show N - (n + 1) = f by omega]
  exact rd_st a7 (by omega) a12 a4 (of_eq_false (neqF (by omega) (by omega) nb.2)) u1
theorem Prs_pl {L : List Nat} {n : Nat} (hP : Prs L e hp K t n) (hn : n < 600) (h5 : e 1 < 5) (hv : v ≤ 99999) : Prs (L ++ plX v) (plN e v) hp K t (n + 1) := Prs_st (i := 1) hP hn (by omega) ⟨_, rfl⟩ (fun _ _ _ _ _ _ _ _ a1 _ _ a4 a5 a6 => st_pl a1 a4 a5 h5 hv a6)
theorem Prs_lo {L : List Nat} {n : Nat} (hP : Prs L e hp K t n) (hn : n < 600) (h5 : e 2 < 12) (h1 : 1 ≤ v) (hv : v ≤ 9999) : Prs (L ++ loX v) (loN e v) hp K t (n + 1) := Prs_st (i := 3) hP hn (by omega) ⟨_, rfl⟩ (fun _ _ _ _ _ _ _ _ a1 _ _ a4 a5 a6 => st_lo a1 a4 a5 h5 h1 hv a6)
theorem Prs_ca {L : List Nat} {n p x y : Nat} (hP : Prs L e hp K t n) (hn : n < 600) (hp1 : p < e 1) (h8 : e (11 + 19 * p + 1) < 8) (hx : x < fctN (e 0)) (y1 : 1 ≤ y) (y9 : y ≤ 999) : Prs (L ++ caX p (numN (e 0) x) y) (giveN e p (numN (e 0) x) y) hp K t (n + 1) := Prs_st (i := 2) hP hn (by omega) ⟨_, rfl⟩ (fun _ _ _ _ _ _ _ _ a1 a2 a3 a4 a5 a6 => st_ca a1 a4 a3 a2 a5 hp1 h8 hx y1 y9 a6)
/-- the end: the text is read as the auction e' -/
def PrsE (L : List Nat) (e : Nat → Nat) (K : Nat) (t : Nat → Nat) : Prop := ∀ (N b0 : Nat) (h0 : zH) (rl : Nat) (V B : Nat → Int32) (cz : Int32) (C T R : Nat → Int32) (X : Nat → Nat → Int32) (P Q : Nat → Int32) (b : Nat → Nat) (z : Nat), 2000 < N → b0 + 395 ≤ hS h0 → GrpAt h0 (b0 + 1) → TxtB B b L.length → V 2 = nI z → z ≤ 700 → L.length ≤ z → RowOK R → SegAt b L.length 0 L → ∃ k e' hp, f_X7_read N (b0 + 4) (nI L.length) (cset h0 (b0 + 4) (b0 + 1) rl V B cz C T R X P Q) = some (nI 0, k) ∧ GoodK b0 h0 B b L.length k e' L.length hp K t ∧ (hp = 0 → K = 1 ∧ t = fun _ => 10000) ∧ ∀ j, j < 178 → j ≠ 10 → e' j = e j
theorem Prs_end0 {N n : Nat} {L : List Nat} (hNN : 2000 < N) (hn : n < 650) (hG : GoodK b0 h0 B b L.length k e (skp b L.length L.length) hp K t) : f_X7_read_l68 N (b0 + 4) (N - n) (nI n) k = some (nI 0, k) ∧ skp b L.length L.length = L.length := by
  have sk : skp b L.length L.length = L.length := by
    unfold skp
    rw [Nat.sub_self]
    rfl
  rw [sk] at hG
  obtain ⟨a12, a4, a7⟩ := Ac_4 hG
  have tk : tkK b L.length L.length = 0 := by unfold tkK; rw [if_pos (Nat.le_refl _)]
  rw [tk] at a4
  obtain ⟨f, hf⟩ : ∃ f, N - n = f + 1 := ⟨N - n - 1, by omega⟩
  rw [hf]
  exact ⟨rd_end (by omega) a12 a4, sk⟩
theorem PrsE_0 {L : List Nat} {n : Nat} (hP : Prs L e 0 1 (fun _ => 10000) n) (hn : n < 600) : PrsE L e 1 (fun _ => 10000) := by
  intro N b0 h0 rl V B cz C T R X P Q b z hNN hS0 hG0 hT hV2 hz7 hlz hO hs
  obtain ⟨k, r1, r2⟩ := hP N b0 h0 rl V B cz C T R X P Q b L.length z hNN hS0 hG0 hT hV2 hz7 hlz hO hs
  obtain ⟨u1, u2⟩ := Prs_end0 hNN (show n < 650 by omega) r2
  rw [u2] at r2
  exact ⟨k, e, 0, r1.trans u1, r2, fun _ => ⟨rfl, rfl⟩, fun _ _ _ => rfl⟩
theorem PrsE_1 {L : List Nat} {n m : Nat} {Cc : List Nat} {Y : Nat → List Nat} (hP : Prs L e 0 1 (fun _ => 10000) n) (hn : n < 600) (hx : NodeX m Cc Y) (hm : m ≤ 2) {t' : Nat → Nat} (hc : CodAt t' 0 Cc) : PrsE (L ++ prX (Y 0)) e Cc.length t' := by
  intro N b0 h0 rl V B cz C T R X P Q b z hNN hS0 hG0 hT hV2 hz7 hlz hO hs
  obtain ⟨s1, s2⟩ := SegAt_app hs
  rw [Nat.zero_add] at s2
  obtain ⟨k, r1, r2⟩ := hP N b0 h0 rl V B cz C T R X P Q b _ z hNN hS0 hG0 hT hV2 hz7 hlz hO s1
  have nb := wd_nb (i := 4) (by omega) s2
  rw [nb.1] at r2
  obtain ⟨k', e', u1, u2, u3⟩ := st_pr hNN hT hS0 r2 hx hm hc s2
  obtain ⟨a12, a4, a7⟩ := Ac_4 r2
  have k4 := tkK_lt b (L ++ prX (Y 0)).length L.length
  obtain ⟨f, hf⟩ : ∃ f, N - n = f + 1 := ⟨N - n - 1, by omega⟩
  have rr := rd_st (n := f) a7 (show n < 700 by omega) a12 a4 (of_eq_false (neqF (by omega) (by omega) nb.2)) u1
  rw [← List.length_append] at u2
  obtain ⟨v1, v2⟩ := Prs_end0 hNN (show n + 1 < 650 by omega) u2
  rw [v2] at u2
  rw [show N - (n + 1) = f by omega] at v1
  exact ⟨k', e', 1, by rw [r1, hf, rr, v1], u2, fun h9 => absurd h9 (by omega), u3⟩
end M74

/-! ===== the class reads the statements ===== -/
def Ac (b : Nat → Nat) (len : Nat) (V : Nat → Int32) (q : Nat) : Prop := q ≤ len ∧ skp b len q = q ∧ TokAt V b len q ∧ V 12 = nI 0
def Sdm (len q : Nat) : Nat → Int32 := fun k => if k = 3 then nI len else if k = 4 then nI q else nI 0
def GoodK (b0 : Nat) (h0 : zH) (B : Nat → Int32) (b : Nat → Nat) (len : Nat) (k : zH) (e : Nat → Nat) (q hp K : Nat) (t : Nat → Nat) : Prop :=
  ∃ (h : zH) (rl : Nat) (V : Nat → Int32) (cz : Int32) (C T R : Nat → Int32) (X : Nat → Nat → Int32) (P Q : Nat → Int32), k = (cset h (b0 + 4) (b0 + 1) rl V B cz C T R X P Q) ∧ Ac b len V q ∧ (V 2 = nI 0 ∧ V 11 = nI hp ∧ V 13 = -nI 1) ∧ (hp = 0 → cz = nI 0) ∧ (LD e ∧ AucR e T R X P Q ∧ RowOK R) ∧ LRul b0 h0 h hp rl e K t
section M71
variable {h h0 : zH} {b0 rl N : Nat} {V B C : Nat → Int32} {cz : Int32} {T R : Nat → Int32} {X : Nat → Nat → Int32} {P Q : Nat → Int32} {b e t : Nat → Nat} {len q hp K v : Nat} {k : zH}
theorem Ac_At (hA : Ac b len V q) : At b len V (Sdm len q) q := ⟨hA.1, hA.2.1, hA.2.2.1, hA.2.2.2, ⟨q, hA.1, hA.2.1, rfl⟩, rfl, rfl⟩
theorem wordK {i : Nat} (hNN : 2000 < N) (hT : TxtB B b len) (hA : Ac b len V q) (hi : i < 9) (hw : wdAt b len q i) : ∃ V', f_X7_advance N (b0 + 4) (cset h (b0 + 4) (b0 + 1) rl V B cz C T R X P Q) = some (cset h (b0 + 4) (b0 + 1) rl V' B cz C T R X P Q) ∧ Ac b len V' (skp b len (q + wdL i)) ∧ V45 V V' := by
  obtain ⟨hq, sq, tk, v12⟩ := hA
  obtain ⟨u1, u2, u3⟩ := (wdAt_iff hi hq).mp hw
  have wle := hw.1
  obtain ⟨t3, t5, t4, t6, t7⟩ := tk
  rw [sq, u2] at t6
  obtain ⟨V', x1, x2, x3⟩ := x_advance (N := N) (h := aset h (b0 + 4 + 4) (b0 + 1) rl T R X P Q) (q := b0 + 4) (g := b0 + 1) (B := B) (V := V) (cz := cz) (C := C) (p := q + wdL i) (by omega) hT t3 t6 wle
  exact ⟨V', x1, ⟨(skp_le wle).2, skp_skp wle, TokAt_skp wle x2, by rw [x3 12 (by omega) (by omega) (by omega) (by omega)]; exact v12⟩, fun k k4 k5 k6 k7 _ => x3 k k4 k5 k6 k7⟩
theorem signK {c : Nat} (hNN : 2000 < N) (hT : TxtB B b len) (hA : Ac b len V q) (hc : isDg c = false ∧ isLt c = false) (hc2 : c < 256) (hs : sgAt b len q c) : ∃ V', f_X7_takeSign N (b0 + 4) (nI c) (cset h (b0 + 4) (b0 + 1) rl V B cz C T R X P Q) = some (nI 1, cset h (b0 + 4) (b0 + 1) rl V' B cz C T R X P Q) ∧ Ac b len V' (skp b len (q + 1)) ∧ V45 V V' ∧ V' 8 = V 8 := by
  obtain ⟨hq, sq, tk, v12⟩ := hA
  obtain ⟨V', y1, y2, y3, y4⟩ := x_takeSign_y (N := N) (h := aset h (b0 + 4 + 4) (b0 + 1) rl T R X P Q) (q := b0 + 4) (g := b0 + 1) (V := V) (B := B) (cz := cz) (C := C) (p := q) (c := c) (by omega) hq hc hc2 hT tk (by rw [sq]; exact hs)
  rw [sq] at y2
  have wle : q + 1 ≤ len := hs.1
  exact ⟨V', y1, ⟨(skp_le wle).2, skp_skp wle, TokAt_skp wle y2, by rw [y3 12 (by omega) (by omega) (by omega) (by omega) (by omega)]; exact v12⟩, y3, y4⟩
theorem numK2 {lo hi1 q1 : Nat} {hi : Int32} (hNN : 2000 < N) (hlo : lo ≤ 1000) (hc : ∀ v, v < 2 ^ 30 → (nI v ≤ hi) = (v < hi1)) (hT : TxtB B b len) (hA : Ac b len V q) (hn : NumAt b len q v q1) (h1 : lo ≤ v) (h2 : v < hi1) : ∃ V', f_X7_takeNumber N (b0 + 4) (nI lo) hi (cset h (b0 + 4) (b0 + 1) rl V B cz C T R X P Q) = some (nI 1, cset h (b0 + 4) (b0 + 1) rl V' B cz C T R X P Q) ∧ Ac b len V' (skp b len q1) ∧ V45 V V' ∧ V' 8 = nI v := by
  obtain ⟨hq, sq, tk, v12⟩ := hA
  obtain ⟨n1, n2, n3⟩ := hn
  have tb := tk_bounds (b := b) hq
  obtain ⟨V', x1, x2, x3, x4⟩ := x_takeNumber_y (N := N) (h := aset h (b0 + 4 + 4) (b0 + 1) rl T R X P Q) (q := b0 + 4) (g := b0 + 1) (V := V) (B := B) (cz := cz) (C := C) (p := q) (lo := lo) (hi1 := hi1) (hi := hi) (by omega) hlo hc hq hT tk (by rw [sq]; exact n1) (by rw [sq, n2]; exact h1) (by rw [sq, n2]; exact h2)
  rw [sq, n3] at x2
  rw [sq, n2] at x4
  have wle : q1 ≤ len := by rw [← n3]; exact tb.2.1
  exact ⟨V', x1, ⟨(skp_le wle).2, skp_skp wle, TokAt_skp wle x2, by rw [x3 12 (by omega) (by omega) (by omega) (by omega) (by omega)]; exact v12⟩, x3, x4⟩
theorem eltK {q1 n x : Nat} (hNN : 2000 < N) (hG : GrpAt h (b0 + 1)) (hn : inN n) (h8 : T 8 = nI n) (hT : TxtB B b len) (hA : Ac b len V q) (hx : x < fctN n) (hv : NumAt b len q (numN n x) q1) : ∃ V', f_X7_takeElement N (b0 + 4) (cset h (b0 + 4) (b0 + 1) rl V B cz C T R X P Q) = some (nI 1, cset h (b0 + 4) (b0 + 1) rl V' B cz C T R X P Q) ∧ Ac b len V' (skp b len q1) ∧ V45 V V' ∧ V' 8 = nI x := by
  obtain ⟨n1, n2, n3⟩ := hv
  have tb := tk_bounds (b := b) hA.1
  have ho : eltI n (nI (tkV b len q)) = some x := by
    rw [n2]
    rw [eltI_nI (by have := num_lt hn (show x < 120 by have := fct_le hn; omega); omega)]
    exact elt_num hn hx
  obtain ⟨V', x1, x2, x3, x4⟩ := (x_elt_v (N := N) (h := h) (r0 := b0 + 4) (g := b0 + 1) (rl := rl) (B := B) (cz := cz) (C := C) (R := R) (X := X) (P := P) (Q := Q) hNN hG (by omega) hn h8 hT (Ac_At hA) n1 ho).2 x rfl
  rw [n3] at x2
  have wle : q1 ≤ len := by rw [← n3]; exact tb.2.1
  exact ⟨V', x1, ⟨(skp_le wle).2, skp_skp wle, TokAt_skp wle x2, by rw [x3 12 (by omega) (by omega) (by omega) (by omega) (by omega)]; exact hA.2.2.2⟩, x3, x4⟩
theorem GoodK_mk {V' T' R' : Nat → Int32} {X' : Nat → Nat → Int32} {P' Q' : Nat → Int32} {e' : Nat → Nat} {q' : Nat} (hA' : Ac b len V' q') (hV : V 2 = nI 0 ∧ V 11 = nI hp ∧ V 13 = -nI 1) (hcz : hp = 0 → cz = nI 0) (h1 : V45 V V') (hd : LD e') (hr : AucR e' T' R' X' P' Q') (ho : RowOK R') (hl : LRul b0 h0 h hp rl e' K t) : GoodK b0 h0 B b len (cset h (b0 + 4) (b0 + 1) rl V' B cz C T' R' X' P' Q') e' q' hp K t :=
  ⟨h, rl, V', cz, C, T', R', X', P', Q', rfl, hA', ⟨(h1 2 (by omega) (by omega) (by omega) (by omega) (by omega)).trans hV.1, (h1 11 (by omega) (by omega) (by omega) (by omega) (by omega)).trans hV.2.1, (h1 13 (by omega) (by omega) (by omega) (by omega) (by omega)).trans hV.2.2⟩, hcz, ⟨hd, hr, ho⟩, hl⟩
theorem notW {i j : Nat} (hi : i < 9) (hj : j < 9) (hij : wdC i 0 ≠ wdC j 0 ∨ wdC i 1 ≠ wdC j 1) (hw : wdAt b len q i) (l1 : 1 < wdL i ∧ 1 < wdL j) : ¬ wdAt b len q j := fun hw2 => by
  have a0 := hw.2.1 0 (by omega)
  have a1 := hw.2.1 1 (by omega)
  have b0 := hw2.2.1 0 (by omega)
  have b1 := hw2.2.1 1 (by omega)
  rcases hij with h9 | h9
  · exact h9 (a0.symm.trans b0)
  · exact h9 (a1.symm.trans b1)
theorem isW_y {i : Nat} (hNN : 2000 < N) (hi : i < 9) (hT : TxtB B b len) (hA : Ac b len V q) (hw : wdAt b len q i) : f_X7_isWord N (b0 + 4) i (cset h (b0 + 4) (b0 + 1) rl V B cz C T R X P Q) = some (nI 1, cset h (b0 + 4) (b0 + 1) rl V B cz C T R X P Q) := x_isWord_y (by omega) hi hA.1 hT hA.2.2.1 (by rw [hA.2.1]; exact hw)
theorem isW_n {i : Nat} (hNN : 2000 < N) (hi : i < 9) (hT : TxtB B b len) (hA : Ac b len V q) (hw : ¬ wdAt b len q i) : f_X7_isWord N (b0 + 4) i (cset h (b0 + 4) (b0 + 1) rl V B cz C T R X P Q) = some (nI 0, cset h (b0 + 4) (b0 + 1) rl V B cz C T R X P Q) := x_isWord_n (by omega) hi hA.1 hT hA.2.2.1 (by rw [hA.2.1]; exact hw)
/-- a word with a blank behind -/
theorem wd_bl {i : Nat} {L : List Nat} (hi : i < 9) (h : SegAt b len q (wdN.getD i [] ++ (32 :: L))) : wdAt b len q i ∧ (q + wdL i < len ∧ b (q + wdL i) = 32) ∧ SegAt b len (q + wdL i + 1) L := by
  obtain ⟨h1, h2⟩ := SegAt_app h
  obtain ⟨h3, h4⟩ := SegAt_cons h2
  exact ⟨wd_seg hi h1 (fun _ => by show isLt (b (q + wdL i)) = false; rw [show b (q + wdL i) = 32 from h3.2]; rfl), h3, h4⟩
theorem st_pl (hNN : 2000 < N) (hT : TxtB B b len) (hG : GoodK b0 h0 B b len k e q hp K t) (h5 : e 1 < 5) (hv : v ≤ 99999) (hs : SegAt b len q (plX v)) : ∃ k', f_X7_takeStatement N (b0 + 4) k = some (nI 1, k') ∧ GoodK b0 h0 B b len k' (plN e v) (skp b len (q + (plX v).length)) hp K t := by
  obtain ⟨h, rl, V, cz, C, T, R, X, P, Q, rfl, hA, hV, hcz, ⟨hD, hR, hO⟩, hL⟩ := hG
  obtain ⟨w1, w2, w3⟩ := wd_bl (i := 1) (by omega) hs
  obtain ⟨n1, n2, n3, n4⟩ := sg_num (c := 59) (show v < 100000 by omega) (by decide) w3
  obtain ⟨V1, a1, a2, a3⟩ := wordK (N := N) (h := h) (b0 := b0) (rl := rl) (cz := cz) (C := C) (T := T) (R := R) (X := X) (P := P) (Q := Q) hNN hT hA (by omega) w1
  rw [skp_b w2.1 w2.2, n1] at a2
  obtain ⟨V2, c1, c2, c3, c8⟩ := numK2 (N := N) (h := h) (b0 := b0) (rl := rl) (cz := cz) (C := C) (T := T) (R := R) (X := X) (P := P) (Q := Q) (lo := 0) (hi1 := 100000) (hi := nI 99999) hNN (by omega) (hi_c (by omega)) hT a2 n2 (Nat.zero_le _) (by omega)
  rw [skp_nb n3.1 (by rw [n3.2]; omega)] at c2
  obtain ⟨V3, d1, d2, d3, -⟩ := signK (N := N) (h := h) (b0 := b0) (rl := rl) (cz := cz) (C := C) (T := upd T 9 (nI (e 1 + 1))) (R := upd (upd R (3 + 5 * e 1) (nI 0)) (5 + 5 * e 1) (nI 0)) (X := X) (P := upd P (e 1) (nI v)) (Q := upd Q (e 1) (nI 0)) (c := 59) hNN hT c2 ⟨rfl, rfl⟩ (by omega) ⟨n3.1, n3.2⟩
  have t9 := hR.1.2.1
  have tp := cp_1 (N := N) (fun _ _ => cs_o7) (fun _ _ => cs_o7) cs_gA9 (by rw [cs_g9, t9]) (by omega) a1 c1 cs_gA9 (by exact cs_gI8.trans (by rw [c8])) (fun _ _ => cs_o0) (cs_add t9 (by omega))
  have hl : q + wdL 1 + 1 + (digX v).length + 1 = q + (plX v).length := by
    unfold plX
    rw [List.length_append, List.length_cons, List.length_append]
    show _ = q + (wdL 1 + ((digX v).length + 1 + 1))
    omega
  rw [hl] at d2
  refine ⟨_, ?_, GoodK_mk (C := C) d2 hV hcz (V45_tr (V45_tr a3 c3) d3) (LD_pl hD (by omega) hv) (AucR_pl hD hR (by omega)) (RowOK_pl hO) (LRul_cg (fun j hj => plN_ne (by omega) (by omega)) hL)⟩
  rw [cst_1 (fun _ _ => cs_o7) (isW_y hNN (by omega) hT hA w1), tp, Option.bind_some]
  exact tlC_v (fun _ _ => cs_o7) d1 (Or.inr rfl)
theorem st_lo (hNN : 2000 < N) (hT : TxtB B b len) (hG : GoodK b0 h0 B b len k e q hp K t) (h5 : e 2 < 12) (h1v : 1 ≤ v) (hv : v ≤ 9999) (hs : SegAt b len q (loX v)) : ∃ k', f_X7_takeStatement N (b0 + 4) k = some (nI 1, k') ∧ GoodK b0 h0 B b len k' (loN e v) (skp b len (q + (loX v).length)) hp K t := by
  obtain ⟨h, rl, V, cz, C, T, R, X, P, Q, rfl, hA, hV, hcz, ⟨hD, hR, hO⟩, hL⟩ := hG
  obtain ⟨w1, w2, w3⟩ := wd_bl (i := 3) (by omega) hs
  obtain ⟨n1, n2, n3, n4⟩ := sg_num (c := 59) (show v < 100000 by omega) (by decide) w3
  obtain ⟨V1, a1, a2, a3⟩ := wordK (N := N) (h := h) (b0 := b0) (rl := rl) (cz := cz) (C := C) (T := T) (R := R) (X := X) (P := P) (Q := Q) hNN hT hA (by omega) w1
  rw [skp_b w2.1 w2.2, n1] at a2
  obtain ⟨V2, c1, c2, c3, c8⟩ := numK2 (N := N) (h := h) (b0 := b0) (rl := rl) (cz := cz) (C := C) (T := T) (R := R) (X := X) (P := P) (Q := Q) (lo := 1) (hi1 := 10000) (hi := nI 9999) hNN (by omega) (hi_c (by omega)) hT a2 n2 h1v (by omega)
  rw [skp_nb n3.1 (by rw [n3.2]; omega)] at c2
  obtain ⟨V3, d1, d2, d3, -⟩ := signK (N := N) (h := h) (b0 := b0) (rl := rl) (cz := cz) (C := C) (T := T) (R := upd R 27 (nI (e 2 + 1))) (X := updH X 27 (upd (X 27) (e 2) (nI v))) (P := P) (Q := Q) (c := 59) hNN hT c2 ⟨rfl, rfl⟩ (by omega) ⟨n3.1, n3.2⟩
  have r27 := hR.2.1.1
  have nf := cs_nfull (N := N) (h := h) (r0 := b0 + 4) (g := b0 + 1) (rl := rl) (V := V) (B := B) (cz := cz) (C := C) (T := T) (X := X) (P := P) (Q := Q) isR_27 r27 (show e 2 < rlen 27 by show e 2 < 12; omega)
  have tp := cl_1 (N := N) (fun _ _ => cs_o7) (fun _ _ => cs_o7) cs_gA9 cs_gA02 (fun _ _ => cs_oR isR_27) nf a1 c1 cs_gA9 cs_gA02 (by exact cs_gI8.trans (by rw [c8])) (fun _ _ => cs_oR isR_27) (cs_push isR_27 r27 (show e 2 < rlen 27 by show e 2 < 12; omega))
  have hl : q + wdL 3 + 1 + (digX v).length + 1 = q + (loX v).length := by
    unfold loX
    rw [List.length_append, List.length_cons, List.length_append]
    show _ = q + (wdL 3 + ((digX v).length + 1 + 1))
    omega
  rw [hl] at d2
  refine ⟨_, ?_, GoodK_mk (C := C) d2 hV hcz (V45_tr (V45_tr a3 c3) d3) (LD_lo hD (by omega) hv) (AucR_lo hD hR (by omega)) (RowOK_up hO (show e 2 + 1 ≤ rlen 27 by show e 2 + 1 ≤ 12; omega)) (LRul_cg (fun j hj => loN_ne (by omega) (by omega)) hL)⟩
  rw [cst_3 (fun _ _ => cs_o7) (isW_n hNN (by omega) hT hA (notW (i := 3) (by omega) (by omega) (by decide) w1 (by decide))) (isW_n hNN (by omega) hT hA (notW (i := 3) (by omega) (by omega) (by decide) w1 (by decide))) (isW_y hNN (by omega) hT hA w1), tp, Option.bind_some]
  exact tlC_v (fun _ _ => cs_o7) d1 (Or.inr rfl)
theorem st_ca {p x y : Nat} (hNN : 2000 < N) (hT : TxtB B b len) (hGr : GrpAt h0 (b0 + 1)) (hb : b0 + 395 ≤ hS h0) (hG : GoodK b0 h0 B b len k e q hp K t) (hp1 : p < e 1) (h8 : e (11 + 19 * p + 1) < 8) (hx : x < fctN (e 0)) (y1 : 1 ≤ y) (y9 : y ≤ 999) (hs : SegAt b len q (caX p (numN (e 0) x) y)) : ∃ k', f_X7_takeStatement N (b0 + 4) k = some (nI 1, k') ∧ GoodK b0 h0 B b len k' (giveN e p (numN (e 0) x) y) (skp b len (q + (caX p (numN (e 0) x) y).length)) hp K t := by
  obtain ⟨h, rl, V, cz, C, T, R, X, P, Q, rfl, hA, hV, hcz, ⟨hD, hR, hO⟩, hL⟩ := hG
  have hn0 := hD.1
  have t9 := hR.1.2.1
  have t8 := hR.1.1
  have h1 := hD.2.1.1
  have hp5 : p < 5 := by omega
  have hx9 := num_lt hn0 (show x < 120 by have := fct_le hn0; omega)
  have hGh : GrpAt h (b0 + 1) := by
    have hB := LB_rul hL
    exact GrpAt_sim hGr (fun k hk => Or.inl (hB.1 _ (by omega)))
  obtain ⟨w1, w2, w3⟩ := wd_bl (i := 2) (by omega) hs
  obtain ⟨n1, n2, n3, n4⟩ := sg_num (c := 32) (show p < 100000 by omega) (by decide) w3
  obtain ⟨m1, m2, m3, m4⟩ := sg_num (c := 32) (show numN (e 0) x < 100000 by omega) (by decide) n4
  obtain ⟨l1, l2, l3', l4⟩ := sg_num (c := 59) (show y < 100000 by omega) (by decide) m4
  obtain ⟨V1, a1, a2, a3⟩ := wordK (N := N) (h := h) (b0 := b0) (rl := rl) (cz := cz) (C := C) (T := T) (R := R) (X := X) (P := P) (Q := Q) hNN hT hA (by omega) w1
  rw [skp_b w2.1 w2.2, n1] at a2
  obtain ⟨V2, c1, c2, c3, c8⟩ := numK2 (N := N) (h := h) (b0 := b0) (rl := rl) (cz := cz) (C := C) (T := T) (R := R) (X := X) (P := P) (Q := Q) (lo := 0) (hi1 := e 1) (hi := nI (e 1) - nI 1) hNN (by omega) (hi_cn (by omega)) hT a2 n2 (Nat.zero_le _) hp1
  rw [skp_b n3.1 n3.2, m1] at c2
  obtain ⟨V3, d1, d2, d3, d8⟩ := eltK (N := N) (h := h) (b0 := b0) (rl := rl) (cz := cz) (C := C) (T := T) (R := R) (X := X) (P := P) (Q := Q) hNN hGh hn0 t8 hT c2 hx m2
  rw [skp_b m3.1 m3.2, l1] at d2
  obtain ⟨V4, f1, f2, f3, f8⟩ := numK2 (N := N) (h := h) (b0 := b0) (rl := rl) (cz := cz) (C := C) (T := T) (R := R) (X := X) (P := P) (Q := Q) (lo := 1) (hi1 := 1000) (hi := nI 999) hNN (by omega) (hi_c (by omega)) hT d2 l2 y1 (by omega)
  rw [skp_nb l3'.1 (by rw [l3'.2]; omega)] at f2
  obtain ⟨-, -, r3, r5, -⟩ := hR.2.2.2.2 p hp1
  have l3 := rlen_e hp5
  have l5 := rlen_b hp5
  have bd := cs_bidder (N := N) (h := h) (r0 := b0 + 4) (g := b0 + 1) (rl := rl) (V := V2) (B := B) (cz := cz) (C := C) (T := T) (R := R) (X := X) (P := P) (Q := Q) t9 h1 hp1
  have g8 : gI (cset h (b0 + 4) (b0 + 1) (rl) (V2) B (cz) (C) (T) (R) (X) (P) (Q)) (b0 + 4) 7 8 = some (nI p) := by rw [cs_gI8, c8]
  have g8' : gI (cset h (b0 + 4) (b0 + 1) (rl) (V3) B (cz) (C) (T) (R) (X) (P) (Q)) (b0 + 4) 7 8 = some (nI x) := by rw [cs_gI8, d8]
  have nf := cs_nfull (N := N) (h := h) (r0 := b0 + 4) (g := b0 + 1) (rl := rl) (V := V2) (B := B) (cz := cz) (C := C) (T := T) (X := X) (P := P) (Q := Q) (isR_e hp5) r3 (show e (11 + 19 * p + 1) < rlen (3 + 5 * p) by rw [l3]; omega)
  have ei : idxN (e 0) (numN (e 0) x) = x := by unfold idxN; rw [elt_num hn0 hx]; rfl
  have hc8 : ∀ r, r < e 1 → e (11 + 19 * r + 1) ≤ 8 := fun r hr => (hD.2.2.2.2.1 r hr).2.1
  have ar := AucR_give (e := numN (e 0) x) (b := y) hR h1 hp1 (by omega) hc8
  rw [ei] at ar
  have ro : RowOK (giveR R p (e (11 + 19 * p + 1))) := RowOK_up (RowOK_up hO (by omega)) (by omega)
  have q5 : gI (cset h (b0 + 4) (b0 + 1) (rl) (V1) B (cz) (C) (T) (R) (X) (P) (Q)) (b0 + 4) 7 5 = some (V1 5) := cs_gI5
  have tp := cc_b1 (N := N) (y := nI y) (fun _ _ => cs_o7) (fun _ _ => cs_o7) a1 q5 cs_gA9 (by rw [cs_g9, t9]) c1 cs_gA9 g8 (fun _ _ => cs_o0) bd (cs_gA10 hp5) (fun _ _ => cs_oR (isR_e hp5)) (fun _ _ => cs_o7) nf d1 (fun _ _ => cs_o7) g8' f1 (by exact cs_gI8.trans (by rw [f8])) (fun _ _ => cs_o1 hp5) (cs_card hp5 r3 r5 (by omega))
  obtain ⟨V5, s1, s2, s3, -⟩ := signK (N := N) (h := h) (b0 := b0) (rl := rl) (cz := cz) (C := C) (T := T) (R := upd (upd R (3 + 5 * p) (nI (e (11 + 19 * p + 1) + 1))) (5 + 5 * p) (nI (e (11 + 19 * p + 1) + 1))) (X := updH (updH X (3 + 5 * p) (upd (X (3 + 5 * p)) (e (11 + 19 * p + 1)) (nI x))) (5 + 5 * p) (upd (X (5 + 5 * p)) (e (11 + 19 * p + 1)) (nI y))) (P := P) (Q := Q) (c := 59) hNN hT f2 ⟨rfl, rfl⟩ (by omega) ⟨l3'.1, l3'.2⟩
  have hl : q + wdL 2 + 1 + (digX p).length + 1 + (digX (numN (e 0) x)).length + 1 + (digX y).length + 1 = q + (caX p (numN (e 0) x) y).length := by
    unfold caX
    rw [List.length_append, List.length_cons, List.length_append, List.length_cons, List.length_append, List.length_cons, List.length_append]
    show _ = q + (wdL 2 + ((digX p).length + ((digX (numN (e 0) x)).length + ((digX y).length + 1 + 1) + 1) + 1))
    omega
  rw [hl] at s2
  refine ⟨_, ?_, GoodK_mk (C := C) s2 hV hcz (V45_tr (V45_tr (V45_tr (V45_tr a3 c3) d3) f3) s3) (LD_gv hD hp1 (by omega) ⟨x, hx, rfl⟩ (by omega)) ar ro (LRul_cg (fun j hj => giveN_out (by omega) (by omega) (by omega)) hL)⟩
  rw [cst_2 (fun _ _ => cs_o7) (isW_n hNN (by omega) hT hA (notW (i := 2) (by omega) (by omega) (by decide) w1 (by decide))) (isW_y hNN (by omega) hT hA w1), tp, Option.bind_some]
  exact tlC_v (fun _ _ => cs_o7) s1 (Or.inr rfl)
end M71

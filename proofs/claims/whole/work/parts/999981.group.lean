/-! ===== the group; the text is read ===== -/
theorem nI_ux (x : Int32) : nI (ux x) = x := ux_inj (ux_nI x.toUInt32.toNat_lt)
def e0N (E : Nat → Int32) : Nat → Nat := fun j => if j < 1378 then 0 else ux (E j)
def clE (E : Nat → Int32) (k : Nat) : Nat → Int32 := fun j => if k ≤ j ∧ j < 1378 then nI 0 else E j
theorem clE_0 (E : Nat → Int32) : clE E 0 = dI (e0N E) := by
  funext j
  show (if 0 ≤ j ∧ j < 1378 then nI 0 else E j) = nI (if j < 1378 then 0 else ux (E j))
  by_cases hj : j < 1378
  · rw [if_pos ⟨Nat.zero_le _, hj⟩, if_pos hj]
  · rw [if_neg (by omega), if_neg hj, nI_ux]
theorem clE_end (E : Nat → Int32) : clE E 1378 = E := funext fun j => if_neg (by omega)
theorem clE_step (E : Nat → Int32) {k : Nat} (hk : k < 1378) : clE (upd E k (nI 0)) (k + 1) = clE E k := by
  funext j
  unfold clE
  by_cases hj : j = k
  · subst hj
    rw [if_neg (by omega), upS_eq, if_pos (by omega)]
  · rw [upS_ne hj]
    by_cases h2 : k + 1 ≤ j ∧ j < 1378
    · rw [if_pos h2, if_pos (by omega)]
    · rw [if_neg h2, if_neg (by omega)]
/-- how the model's reading ends -/
def kFin (N m : Nat) : zH → Option (Int32 × zH) := fun (h23 : zH) => (gI h23 m 9 6).bind fun x24 => (pF h23 m 9 7 (.int x24)).bind fun h25 => (onO 9 m h25 (f_X9_isGood N m h25)).bind fun y26 => if y26.1 = 0 then (gI y26.2 m 9 5).bind fun x33 => some (x33, y26.2) else (onO 9 m y26.2 (f_X9_remember N m y26.2)).bind fun y27 => (gA y27 m 9 9).bind fun x28 => (gA y27 m 9 8).bind fun x29 => (f_X9_copy N x28 x29 y27).bind fun y30 => (gA y30 m 9 8).bind fun x31 => (ldI y30 x31 (1 : Int32)).bind fun x32 => some (x32, y30)
def mGr (N m : Nat) (h : zH) : Option (Int32 × zH) := (onO 9 m h (f_X9_takeWord N m 0 h)).bind fun y15 => if y15.1 = 0 then (gI y15.2 m 9 4).bind fun x34 => (onO 9 m y15.2 (f_X9_report N m (-2 : Int32) x34 y15.2)).bind fun y35 => f_X9_load_j108 N m y35 else f_X9_load_j108 N m y15.2
def Sld (S : Nat → Int32) (len : Nat) : Nat → Int32 := upd (upd (upd (upd (upd (upd (upd (upd S 0 (nI 0)) 2 (nI 0)) 3 (nI len)) 4 (nI 0)) 5 (nI 0)) 6 (-nI 1)) 13 (nI 0)) 14 (nI 0)
section M999981a
variable {N m r a : Nat} {X Y Z A F G : zH} {v w : Int32}
theorem mg_j {c : Nat} (o : Oh 9 m X) (oz : Oh 9 m Z) (ga : gA X m 9 9 = some c) (n : f_X9_number N m (nI 2) (nI 5) X = some (v, Y)) (st : stI Y c (nI 0) v = some Z) (ex : f_X9_expect N m (nI 59) Z = some A) : f_X9_load_j108 N m X = f_X9_load_l126 N m (kFin N m) N A := by
  unfold f_X9_load_j108
  rw [ga, Option.bind_some, o, show (2 : Int32) = nI 2 from rfl, show (5 : Int32) = nI 5 from rfl, n, Option.bind_some, show (0 : Int32) = nI 0 from rfl, st, Option.bind_some, oz, show (59 : Int32) = nI 59 from rfl, ex, Option.bind_some]
  rfl
theorem mg_0 (o : Oh 9 m X) (oy : Oh 9 m Y) (t : f_X9_takeWord N m 0 X = some (nI 0, Y)) (g4 : gI Y m 9 4 = some v) (rp : f_X9_report N m (-nI 2) v Y = some Z) : mGr N m X = f_X9_load_j108 N m Z := by
  unfold mGr
  rw [o, t, Option.bind_some, if_pos (show (nI 0, Y).1 = 0 from rfl)]
  dsimp only
  rw [g4, Option.bind_some, oy, show (-2 : Int32) = -nI 2 from rfl, rp, Option.bind_some]
theorem mg_1 (o : Oh 9 m X) (t : f_X9_takeWord N m 0 X = some (nI 1, Y)) : mGr N m X = f_X9_load_j108 N m Y := by
  unfold mGr
  rw [o, t, Option.bind_some, if_neg (show ¬ (nI 1, Y).1 = 0 from i1ne)]
theorem cg_0 (o : Oh 7 r X) (t : f_X7_isWord N r 0 X = some (nI 0, X)) (g5 : gI X r 7 5 = some v) (f : f_X7_fail N r (-nI 2) v X = some (nI 0, Y)) : f_X7_takeGroup N r X = some (nI 0, Y) := by
  unfold f_X7_takeGroup
  rw [o, t, Option.bind_some, if_pos (show (nI 0, X).1 = 0 from rfl)]
  dsimp only
  rw [g5, Option.bind_some, o, show (-2 : Int32) = -nI 2 from rfl, f, Option.bind_some]
  rfl
theorem cg_1 (o : Oh 7 r X) (oy : Oh 7 r Y) (t : f_X7_isWord N r 0 X = some (nI 1, X)) (ad : f_X7_advance N r X = some Y) (n : f_X7_takeNumber N r (nI 2) (nI 5) Y = some (nI 0, Z)) : f_X7_takeGroup N r X = some (nI 0, Z) := by
  unfold f_X7_takeGroup
  rw [o, t, Option.bind_some, if_neg (show ¬ (nI 1, X).1 = 0 from i1ne)]
  dsimp only
  rw [o, ad, Option.bind_some, oy, show (2 : Int32) = nI 2 from rfl, show (5 : Int32) = nI 5 from rfl, n, Option.bind_some, if_pos (show (nI 0, Z).1 = 0 from rfl)]
  rfl
theorem cg_2 (o : Oh 7 r X) (oy : Oh 7 r Y) (t : f_X7_isWord N r 0 X = some (nI 1, X)) (ad : f_X7_advance N r X = some Y) (n : f_X7_takeNumber N r (nI 2) (nI 5) Y = some (nI 1, Z)) (ga : gA Z r 7 9 = some a) (g8 : gI Z r 7 8 = some w) (p : pF Z a 0 8 (.int w) = some A) (oa : Oh 7 r A) (ts : f_X7_takeSign N r (nI 59) A = some (v, F)) (hv : v = nI 0 ∨ v = nI 1) : f_X7_takeGroup N r X = some (v, F) := by
  unfold f_X7_takeGroup
  rw [o, t, Option.bind_some, if_neg (show ¬ (nI 1, X).1 = 0 from i1ne)]
  dsimp only
  rw [o, ad, Option.bind_some, oy, show (2 : Int32) = nI 2 from rfl, show (5 : Int32) = nI 5 from rfl, n, Option.bind_some, if_neg (show ¬ (nI 1, Z).1 = 0 from i1ne)]
  dsimp only
  rw [ga, Option.bind_some, g8, Option.bind_some, p, Option.bind_some, oa, show (59 : Int32) = nI 59 from rfl, ts, Option.bind_some]
  dsimp only
  rcases hv with rfl | rfl
  · rw [zB_0', Option.bind_some]
  · rw [zB_1', Option.bind_some]
end M999981a
theorem inN_of {v : Nat} (h1 : 2 ≤ v) (h2 : v < 6) : inN v := by
  unfold inN
  omega
section M999981
variable {h h0 h2 : zH} {b0 rl m N : Nat} {V B C : Nat → Int32} {cz : Int32} {T R : Nat → Int32} {X : Nat → Nat → Int32} {P Q : Nat → Int32} {S S0 B1 D E : Nat → Int32} {H : Nat → Nat → Int32} {J : Nat → Int64} {L U Z W : Nat → Int32} {b e t : Nat → Nat} {len q hp K : Nat}
theorem m_clr_l {k1 : zH → Option (Int32 × zH)} : ∀ (r k fuel : Nat) (E : Nat → Int32), k + r = 1378 → r < fuel → f_X9_load_l69 N m k1 fuel (nI k) (mset h2 m S B1 D E H J L U Z W) = k1 (mset h2 m S B1 D (clE E k) H J L U Z W) := by
  intro r
  induction r with
  | zero =>
    intro k fuel E hk hf
    obtain ⟨fuel, rfl⟩ : ∃ m, fuel = m + 1 := ⟨fuel - 1, by omega⟩
    rw [show k = 1378 by omega, clE_end]
    simp (disch := omega) only [f_X9_load_l69, nlit, nleT, ↓reduceIte]
  | succ r ih =>
    intro k fuel E hk hf
    obtain ⟨fuel, rfl⟩ : ∃ m, fuel = m + 1 := ⟨fuel - 1, by omega⟩
    have i1 := ih (k + 1) fuel (upd E k (nI 0)) (by omega) (by omega)
    rw [clE_step E (by omega)] at i1
    rw [← i1]
    simp (disch := omega) only [f_X9_load_l69, gA_ms, stI_ms, nlit, nleF, nadd, ↓reduceIte, Option.bind_some]
theorem m_st0 {x : Nat} : stI (mset h2 m (S) B1 D (dI (e)) H J L U Z W) (m + 3) (nI 0) (nI x) = some (mset h2 m (S) B1 D (dI (upN e 0 x)) H J L U Z W) := by
  simp (disch := omega) only [stI_ms, updI]
theorem cs_p8 {x : Int32} : pF (cset h (b0 + 4) (b0 + 1) rl V B cz C T R X P Q) (b0 + 4 + 4) 0 8 (.int x) = some (cset (h) (b0 + 4) (b0 + 1) (rl) (V) B (cz) (C) (upd T 8 x) (R) (X) (P) (Q)) := by
  rw [cs_comm, pF_a8, cs_comm]
/-- both take the group -/
theorem grP (hNN : 2000 < N) (hS0 : b0 + 414 ≤ hS h) (hT : TxtB B b len) (hT1 : TxtB B1 b len) (hA : At b len V S q) (hs4 : S 13 = nI 0 ∧ S 6 = -nI 1 ∧ S 14 = nI 0) (hV : V 2 = nI 0 ∧ V 11 = nI 0 ∧ V 13 = -nI 1) (hcz : cz = nI 0) (hz : ∀ j, j < 1378 → e j = 0) (hTT : T 9 = nI 0 ∧ T 10 = nI 0 ∧ T 11 = nI 0 ∧ T 12 = nI 0 ∧ T 13 = nI 0 ∧ T 14 = nI 0) (hR : R 27 = nI 0 ∧ R 29 = nI 0 ∧ R 31 = nI 0 ∧ R 33 = nI 0) (hO : RowOK R) (hrl : rl = b0 + 43) (hK : SKL S0 S) :
    (∃ (k : zH) (S' : Nat → Int32) (e' : Nat → Nat), f_X7_takeGroup N (b0 + 4) (cset h (b0 + 4) (b0 + 1) rl V B cz C T R X P Q) = some (nI 0, k) ∧ FailL b0 h B S0 k S' ∧ mGr N m (mset h2 m (S) B1 D (dI (e)) H J L U Z W) = kFin N m (mset h2 m S' B1 D (dI e') H J L U Z W)) ∨
    (∃ (k : zH) (S' : Nat → Int32) (e' : Nat → Nat) (q' : Nat), f_X7_takeGroup N (b0 + 4) (cset h (b0 + 4) (b0 + 1) rl V B cz C T R X P Q) = some (nI 1, k) ∧ GoodL b0 h B b len S0 k S' e' q' ∧ 1 ≤ q' ∧ mGr N m (mset h2 m (S) B1 D (dI (e)) H J L U Z W) = f_X9_load_l126 N m (kFin N m) N (mset h2 m S' B1 D (dI e') H J L U Z W)) := by
  have hA0 := hA
  obtain ⟨hq, sq, tk, v12, ⟨pm, p1, p2, p3⟩, s3, s5⟩ := hA
  have hl := hT.1
  have t5 := tk.2.1
  rw [sq] at t5
  obtain ⟨N', hN'⟩ : ∃ k, N = k + 1 := ⟨N - 1, by omega⟩
  have oM : ∀ (S E : Nat → Int32), Oh 9 m (mset h2 m S B1 D E H J L U Z W) := fun S E _ _ => onO_ms
  have oC : Oh 7 (b0 + 4) (cset h (b0 + 4) (b0 + 1) rl V B cz C T R X P Q) := fun _ _ => cs_o7
  have endB : ∀ (S' : Nat → Int32) (e' : Nat → Nat), S' 5 ≠ nI 0 → f_X9_load_l126 N m (kFin N m) N (mset h2 m S' B1 D (dI e') H J L U Z W) = kFin N m (mset h2 m S' B1 D (dI e') H J L U Z W) := fun S' e' h5 => by
    have k := ml_bad (N := N) (n := N') (k1 := kFin N m) (oM S' (dI e')) (m_bad h5)
    rw [← hN'] at k
    exact k
  obtain ⟨tw1, tw2⟩ := m_takeWord (N := N) (h := h2) (m := m) (B := B1) (D := D) (E := dI e) (H := H) (J := J) (L := L) (U := U) (Z := Z) (W := W) (S := S) (i := 0) (by omega) (by omega) hT1 s3 p3 s5 p1
  rw [p2] at tw1 tw2
  rcases Classical.em (wdAt b len q 0) with w0 | w0
  · obtain ⟨V1, q1, w1, w2, w3, w4⟩ := wordA (N := N) (h := h) (b0 := b0) (rl := rl) (cz := cz) (C := C) (T := T) (R := R) (X := X) (P := P) (Q := Q) hNN hT hA0 (by omega) w0
    have xw : f_X7_isWord N (b0 + 4) 0 (cset h (b0 + 4) (b0 + 1) rl V B cz C T R X P Q) = some (nI 1, (cset h (b0 + 4) (b0 + 1) rl V B cz C T R X P Q)) := x_isWord_y (by omega) (by omega) hq hT tk (by rw [sq]; exact w0)
    rcases numP (N := N) (h := aset h (b0 + 4 + 4) (b0 + 1) rl T R X P Q) (r0 := b0 + 4) (g := b0 + 1) (B := B) (cz := cz) (C := C) (V := V1) (S := upd S 4 (nI (q + wdL 0))) (h2 := h2) (m := m) (D := D) (E := dI e) (H := H) (J := J) (L := L) (U := U) (Z := Z) (W := W) (lo := 2) (hi1 := 6) (hi := nI 5) hNN (by omega) (hi_c (by omega)) (hi_m (by omega)) hT hT1 w2 with ⟨V2, S2, x, a1, a2, a3, a4, a5, a6, a7⟩ | ⟨V2, S2, v, q2, v1, v2, v3, a1, a8, a2, a3, a4, a5, a6, a7, a9⟩
    · refine Or.inl ⟨_, S2, upN e 0 x, cg_1 oC (fun _ _ => cs_o7) xw w1 a1, FailL_mk a3 a4 a5 ((w4 2 (by omega) (by omega) (by omega) (by omega) (by omega)).trans hV.1) a6 hO (LB_rf _) hK (SKL_k (SK_tr SK_4 a7)), ?_⟩
      rw [mg_1 (oM _ _) (tw1 w0), mg_j (oM _ _) (oM _ _) m_ga9 a2 m_st0 (m_expectB a4)]
      exact endB _ _ a4
    · obtain ⟨b1, b2', b3, b4, ⟨pm2, z1, z2, z3⟩, z4, z5⟩ := id a3
      have hL0 : LRul b0 h h 0 rl (upN e 0 v) 1 (fun _ => 10000) := Or.inl ⟨rfl, rfl, hrl, by rw [upN_ne (by omega)]; exact hz 10 (by omega)⟩
      have g8 : gI (cset (h) (b0 + 4) (b0 + 1) (rl) (V2) B (cz) (C) (T) (R) (X) (P) (Q)) (b0 + 4) 7 8 = some (nI v) := by rw [cs_gI8, a8]
      have hv4 := V45_tr w4 a5
      have hn := inN_of v1 v2
      have AR : AucR (upN e 0 v) (upd T 8 (nI v)) R X P Q := AucR_st hz ⟨(upS_ne (by omega)).trans hTT.1, (upS_ne (by omega)).trans hTT.2.1, (upS_ne (by omega)).trans hTT.2.2.1, (upS_ne (by omega)).trans hTT.2.2.2.1, (upS_ne (by omega)).trans hTT.2.2.2.2.1, (upS_ne (by omega)).trans hTT.2.2.2.2.2⟩ (upS_eq _ _ _) hR
      rcases Classical.em (sgAt b len q2 59) with hs | hs
      · obtain ⟨V', y1, y2, y3, y44⟩ := x_takeSign_y (N := N) (h := aset h (b0 + 4 + 4) (b0 + 1) rl (upd T 8 (nI v)) R X P Q) (q := b0 + 4) (g := b0 + 1) (V := V2) (B := B) (cz := cz) (C := C) (p := q2) (c := 59) (by omega) b1 ⟨rfl, rfl⟩ (by omega) hT b3 (by rw [b2']; exact hs)
        rw [b2'] at y2
        have me := m_expect_y (N := N) (h := h2) (m := m) (B := B1) (D := D) (E := dI (upN e 0 v)) (H := H) (J := J) (L := L) (U := U) (Z := Z) (W := W) (S := S2) (c := 59) (by omega) hT1 z4 z3 z5 z1 (by rw [z2]; exact hs)
        rw [z2] at me
        have hlt := hs.1
        have q3le := skp_le (b := b) (show q2 + 1 ≤ len by omega)
        refine Or.inr ⟨_, upd S2 4 (nI (q2 + 1)), upN e 0 v, skp b len (q2 + 1), cg_2 oC (fun _ _ => cs_o7) xw w1 a1 cs_gA9 g8 cs_p8 (fun _ _ => cs_o7) y1 (Or.inr rfl), GoodL_mk (C := C) (At_mk (by omega) y2 (by rw [y3 12 (by omega) (by omega) (by omega) (by omega) (by omega)]; exact b4) (upS_eq _ _ _) (by rw [upS_ne (by omega)]; exact z4) (by rw [upS_ne (by omega)]; exact z5)) hs4 hV (fun _ => hcz) (V45_tr hv4 y3) (SK_tr (SK_tr SK_4 a6) SK_4) ((upS_ne (by omega)).trans (a7.trans (upS_ne (by omega)))) (LD_st hz hn) AR hO hL0 hK, by omega, ?_⟩
        rw [mg_1 (oM _ _) (tw1 w0), mg_j (oM _ _) (oM _ _) m_ga9 a2 m_st0 me]
      · have xt := x_takeSign_n (N := N) (h := aset h (b0 + 4 + 4) (b0 + 1) rl (upd T 8 (nI v)) R X P Q) (q := b0 + 4) (g := b0 + 1) (V := V2) (B := B) (cz := cz) (C := C) (p := q2) (c := 59) b1 ⟨rfl, rfl⟩ (by omega) hT b3 (by rw [b2']; exact hs)
        rw [b2'] at xt
        have me := m_expect_n (N := N) (h := h2) (m := m) (B := B1) (D := D) (E := dI (upN e 0 v)) (H := H) (J := J) (L := L) (U := U) (Z := Z) (W := W) (S := S2) (c := 59) (by omega) (by omega) hT1 z4 z3 z5 z1 (by rw [z2]; exact hs)
        rw [z2] at me
        have nb : mErr S2 q2 (-nI 2) q2 5 ≠ nI 0 := by rw [mErr_5]; exact errs_ne.1
        refine Or.inl ⟨_, mErr S2 q2 (-nI 2) q2, upN e 0 v, cg_2 oC (fun _ _ => cs_o7) xw w1 a1 cs_gA9 g8 cs_p8 (fun _ _ => cs_o7) xt (Or.inl rfl), FailL_mk (rl := rl) (V := V2) (V' := errV V2 (-nI 2) q2) (cz := cz) (C := C) (T := upd T 8 (nI v)) (X := X) (P := P) (Q := Q) ?_ nb ?_ ((hv4 2 (by omega) (by omega) (by omega) (by omega) (by omega)).trans hV.1) VK_err hO (LB_rf _) hK (SKL_k (SK_tr (SK_tr SK_4 a6) SK_err)), ?_⟩
        · unfold errV
          rw [upS_ne (by omega), upS_eq, mErr_5]
        · unfold errV mErr
          rw [upS_eq, upS_eq]
        · rw [mg_1 (oM _ _) (tw1 w0), mg_j (oM _ _) (oM _ _) m_ga9 a2 m_st0 me]
          exact endB _ _ nb
  · have xw : f_X7_isWord N (b0 + 4) 0 (cset h (b0 + 4) (b0 + 1) rl V B cz C T R X P Q) = some (nI 0, (cset h (b0 + 4) (b0 + 1) rl V B cz C T R X P Q)) := x_isWord_n (by omega) (by omega) hq hT tk (by rw [sq]; exact w0)
    have nb : mErr S q (-nI 2) q 5 ≠ nI 0 := by rw [mErr_5]; exact errs_ne.1
    have y4 : gI (mset h2 m (upd S 4 (nI q)) B1 D (dI (e)) H J L U Z W) m 9 4 = some (nI q) := by simp only [gI_ms, upS_eq]
    refine Or.inl ⟨_, mErr S q (-nI 2) q, upN e 0 0, cg_0 oC xw (by rw [cs_gI5, t5]) cs_fail, FailL_mk ?_ nb ?_ hV.1 VK_err hO (LB_rf _) hK (SKL_k SK_err), ?_⟩
    · unfold errV
      rw [upS_ne (by omega), upS_eq, mErr_5]
    · unfold errV mErr
      rw [upS_eq, upS_eq]
    · rw [mg_0 (oM _ _) (oM _ _) (tw2 w0) y4 (m_reportN s5), mg_j (oM _ _) (oM _ _) m_ga9 (m_numberB nb) m_st0 (m_expectB nb)]
      exact endB _ _ nb
end M999981

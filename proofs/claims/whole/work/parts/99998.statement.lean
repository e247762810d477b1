/-! ===== a statement, and all of them ===== -/
/-- what closes a statement -/
def tlC (N r : Nat) (y : Int32 × zH) : Option (Int32 × zH) := if y.1 = 0 then some ((0 : Int32), y.2) else (onO 7 r y.2 (f_X7_takeSign N r (59 : Int32) y.2)).bind fun z => if z.1 = 0 then some ((0 : Int32), z.2) else some ((1 : Int32), z.2)
section M99998a
variable {N r m : Nat} {X Y Y1 Y2 Y3 Z A F : zH} {v w : Int32} {a : Nat}
theorem tlC_0 : tlC N r (nI 0, X) = some (nI 0, X) := if_pos rfl
theorem tlC_v (o : Oh 7 r X) (t : f_X7_takeSign N r (nI 59) X = some (v, Y)) (hv : v = nI 0 ∨ v = nI 1) : tlC N r (nI 1, X) = some (v, Y) := by
  unfold tlC
  rw [if_neg (show ¬ (nI 1, X).1 = 0 from i1ne)]
  dsimp only
  rw [o, show (59 : Int32) = nI 59 from rfl, t, Option.bind_some]
  rcases hv with rfl | rfl
  · exact if_pos rfl
  · exact if_neg i1ne
theorem cst_1 (o : Oh 7 r X) (y1 : f_X7_isWord N r 1 X = some (nI 1, X)) : f_X7_takeStatement N r X = (f_X7_takePlayer N r X).bind (tlC N r) := by
  unfold f_X7_takeStatement
  rw [o, y1, Option.bind_some, if_neg (show ¬ (nI 1, X).1 = 0 from i1ne)]
  dsimp only
  rw [o]
  rfl
theorem cst_2 (o : Oh 7 r X) (n1 : f_X7_isWord N r 1 X = some (nI 0, X)) (y2 : f_X7_isWord N r 2 X = some (nI 1, X)) : f_X7_takeStatement N r X = (f_X7_takeCard N r X).bind (tlC N r) := by
  unfold f_X7_takeStatement
  rw [o, n1, Option.bind_some, if_pos (show (nI 0, X).1 = 0 from rfl)]
  dsimp only
  rw [o, y2, Option.bind_some, if_neg (show ¬ (nI 1, X).1 = 0 from i1ne)]
  dsimp only
  rw [o]
  rfl
theorem cst_3 (o : Oh 7 r X) (n1 : f_X7_isWord N r 1 X = some (nI 0, X)) (n2 : f_X7_isWord N r 2 X = some (nI 0, X)) (y3 : f_X7_isWord N r 3 X = some (nI 1, X)) : f_X7_takeStatement N r X = (f_X7_takeLot N r X).bind (tlC N r) := by
  unfold f_X7_takeStatement
  rw [o, n1, Option.bind_some, if_pos (show (nI 0, X).1 = 0 from rfl)]
  dsimp only
  rw [o, n2, Option.bind_some, if_pos (show (nI 0, X).1 = 0 from rfl)]
  dsimp only
  rw [o, y3, Option.bind_some, if_neg (show ¬ (nI 1, X).1 = 0 from i1ne)]
  dsimp only
  rw [o]
  rfl
theorem cst_4 (o : Oh 7 r X) (n1 : f_X7_isWord N r 1 X = some (nI 0, X)) (n2 : f_X7_isWord N r 2 X = some (nI 0, X)) (n3 : f_X7_isWord N r 3 X = some (nI 0, X)) (y4 : f_X7_isWord N r 4 X = some (nI 1, X)) (g : gI X r 7 11 = some (nI 0)) : f_X7_takeStatement N r X = (f_X7_takePrice N r X).bind (tlC N r) := by
  unfold f_X7_takeStatement
  rw [o, n1, Option.bind_some, if_pos (show (nI 0, X).1 = 0 from rfl)]
  dsimp only
  rw [o, n2, Option.bind_some, if_pos (show (nI 0, X).1 = 0 from rfl)]
  dsimp only
  rw [o, n3, Option.bind_some, if_pos (show (nI 0, X).1 = 0 from rfl)]
  dsimp only
  rw [o, y4, Option.bind_some, if_neg (show ¬ (nI 1, X).1 = 0 from i1ne)]
  dsimp only
  rw [g, Option.bind_some, if_pos (show nI 0 = (0 : Int32) from rfl), o]
  rfl
theorem cst_f (o : Oh 7 r X) (g5 : gI X r 7 5 = some v) (f : f_X7_fail N r (-nI 2) v X = some (nI 0, Y)) : f_X7_takeStatement_j131 N r X = some (nI 0, Y) := by
  unfold f_X7_takeStatement_j131
  rw [g5, Option.bind_some, o, show (-2 : Int32) = -nI 2 from rfl, f, Option.bind_some]
  rfl
theorem cst_5 (o : Oh 7 r X) (n1 : f_X7_isWord N r 1 X = some (nI 0, X)) (n2 : f_X7_isWord N r 2 X = some (nI 0, X)) (n3 : f_X7_isWord N r 3 X = some (nI 0, X)) (y4 : f_X7_isWord N r 4 X = some (nI 1, X)) (g : gI X r 7 11 = some (nI 1)) : f_X7_takeStatement N r X = f_X7_takeStatement_j131 N r X := by
  unfold f_X7_takeStatement
  rw [o, n1, Option.bind_some, if_pos (show (nI 0, X).1 = 0 from rfl)]
  dsimp only
  rw [o, n2, Option.bind_some, if_pos (show (nI 0, X).1 = 0 from rfl)]
  dsimp only
  rw [o, n3, Option.bind_some, if_pos (show (nI 0, X).1 = 0 from rfl)]
  dsimp only
  rw [o, y4, Option.bind_some, if_neg (show ¬ (nI 1, X).1 = 0 from i1ne)]
  dsimp only
  rw [g, Option.bind_some, if_neg (show ¬ nI 1 = (0 : Int32) from i1ne)]
theorem cst_6 (o : Oh 7 r X) (n1 : f_X7_isWord N r 1 X = some (nI 0, X)) (n2 : f_X7_isWord N r 2 X = some (nI 0, X)) (n3 : f_X7_isWord N r 3 X = some (nI 0, X)) (n4 : f_X7_isWord N r 4 X = some (nI 0, X)) : f_X7_takeStatement N r X = f_X7_takeStatement_j131 N r X := by
  unfold f_X7_takeStatement
  rw [o, n1, Option.bind_some, if_pos (show (nI 0, X).1 = 0 from rfl)]
  dsimp only
  rw [o, n2, Option.bind_some, if_pos (show (nI 0, X).1 = 0 from rfl)]
  dsimp only
  rw [o, n3, Option.bind_some, if_pos (show (nI 0, X).1 = 0 from rfl)]
  dsimp only
  rw [o, n4, Option.bind_some, if_pos (show (nI 0, X).1 = 0 from rfl)]
theorem mst_1 (o : Oh 9 m X) (oy : Oh 9 m Y) (nx : f_X9_next N m X = some (w, Y)) (g4 : gI Y m 9 4 = some v) (o1 : Oh 9 m Y1)  (y : f_X9_takeWord N m 1 Y = some (nI 1, Y1)) : f_X9_statement N m X = (f_X9_readPlayer N m v Y1).bind (f_X9_statement_j97 N m) := by
  unfold f_X9_statement
  rw [o, nx, Option.bind_some]
  dsimp only
  rw [g4, Option.bind_some, oy]
  rw [y, Option.bind_some, if_neg (show ¬ (nI 1, Y1).1 = 0 from i1ne)]
  dsimp only
  rw [o1]
theorem mst_2 (o : Oh 9 m X) (oy : Oh 9 m Y) (nx : f_X9_next N m X = some (w, Y)) (g4 : gI Y m 9 4 = some v) (o1 : Oh 9 m Y1) (n1 : f_X9_takeWord N m 1 Y = some (nI 0, Y)) (y : f_X9_takeWord N m 2 Y = some (nI 1, Y1)) : f_X9_statement N m X = (f_X9_readCard N m Y1).bind (f_X9_statement_j97 N m) := by
  unfold f_X9_statement
  rw [o, nx, Option.bind_some]
  dsimp only
  rw [g4, Option.bind_some, oy]
  rw [n1, Option.bind_some, if_pos (show (nI 0, Y).1 = 0 from rfl)]
  dsimp only
  rw [oy]
  rw [y, Option.bind_some, if_neg (show ¬ (nI 1, Y1).1 = 0 from i1ne)]
  dsimp only
  rw [o1]
theorem mst_3 (o : Oh 9 m X) (oy : Oh 9 m Y) (nx : f_X9_next N m X = some (w, Y)) (g4 : gI Y m 9 4 = some v) (o1 : Oh 9 m Y1) (n1 : f_X9_takeWord N m 1 Y = some (nI 0, Y)) (n2 : f_X9_takeWord N m 2 Y = some (nI 0, Y)) (y : f_X9_takeWord N m 3 Y = some (nI 1, Y1)) : f_X9_statement N m X = (f_X9_readLot N m v Y1).bind (f_X9_statement_j97 N m) := by
  unfold f_X9_statement
  rw [o, nx, Option.bind_some]
  dsimp only
  rw [g4, Option.bind_some, oy]
  rw [n1, Option.bind_some, if_pos (show (nI 0, Y).1 = 0 from rfl)]
  dsimp only
  rw [oy]
  rw [n2, Option.bind_some, if_pos (show (nI 0, Y).1 = 0 from rfl)]
  dsimp only
  rw [oy]
  rw [y, Option.bind_some, if_neg (show ¬ (nI 1, Y1).1 = 0 from i1ne)]
  dsimp only
  rw [o1]
theorem mst_4 (o : Oh 9 m X) (oy : Oh 9 m Y) (nx : f_X9_next N m X = some (w, Y)) (g4 : gI Y m 9 4 = some v) (o1 : Oh 9 m Y1) (o3 : Oh 9 m Y3) (n1 : f_X9_takeWord N m 1 Y = some (nI 0, Y)) (n2 : f_X9_takeWord N m 2 Y = some (nI 0, Y)) (n3 : f_X9_takeWord N m 3 Y = some (nI 0, Y)) (y : f_X9_takeWord N m 4 Y = some (nI 1, Y1)) (on : f_X9_once N m (nI 0) v Y1 = some Y2) (ga : gA Y2 m 9 9 = some a) (st : stI Y2 a (nI 9) (nI 1) = some Y3) : f_X9_statement N m X = (f_X9_sumN N 8 m Y3).bind (f_X9_statement_j97 N m) := by
  unfold f_X9_statement
  rw [o, nx, Option.bind_some]
  dsimp only
  rw [g4, Option.bind_some, oy]
  rw [n1, Option.bind_some, if_pos (show (nI 0, Y).1 = 0 from rfl)]
  dsimp only
  rw [oy]
  rw [n2, Option.bind_some, if_pos (show (nI 0, Y).1 = 0 from rfl)]
  dsimp only
  rw [oy]
  rw [n3, Option.bind_some, if_pos (show (nI 0, Y).1 = 0 from rfl)]
  dsimp only
  rw [oy]
  rw [y, Option.bind_some, if_neg (show ¬ (nI 1, Y1).1 = 0 from i1ne)]
  dsimp only
  rw [o1, show (0 : Int32) = nI 0 from rfl, on, Option.bind_some, ga, Option.bind_some, show (9 : Int32) = nI 9 from rfl, show (1 : Int32) = nI 1 from rfl, st, Option.bind_some, o3]
theorem mst_5 (o : Oh 9 m X) (oy : Oh 9 m Y) (nx : f_X9_next N m X = some (w, Y)) (g4 : gI Y m 9 4 = some v) (n1 : f_X9_takeWord N m 1 Y = some (nI 0, Y)) (n2 : f_X9_takeWord N m 2 Y = some (nI 0, Y)) (n3 : f_X9_takeWord N m 3 Y = some (nI 0, Y)) (n4 : f_X9_takeWord N m 4 Y = some (nI 0, Y)) (rp : f_X9_report N m (-nI 2) v Y = some Z) : f_X9_statement N m X = f_X9_statement_j97 N m Z := by
  unfold f_X9_statement
  rw [o, nx, Option.bind_some]
  dsimp only
  rw [g4, Option.bind_some, oy]
  rw [n1, Option.bind_some, if_pos (show (nI 0, Y).1 = 0 from rfl)]
  dsimp only
  rw [oy]
  rw [n2, Option.bind_some, if_pos (show (nI 0, Y).1 = 0 from rfl)]
  dsimp only
  rw [oy]
  rw [n3, Option.bind_some, if_pos (show (nI 0, Y).1 = 0 from rfl)]
  dsimp only
  rw [oy]
  rw [n4, Option.bind_some, if_pos (show (nI 0, Y).1 = 0 from rfl)]
  dsimp only
  rw [oy]
  rw [show (-2 : Int32) = -nI 2 from rfl, rp, Option.bind_some]
end M99998a
section M99998
variable {h h0 h2 : zH} {b0 rl m N : Nat} {V B C : Nat → Int32} {cz : Int32} {T R : Nat → Int32} {X : Nat → Nat → Int32} {P Q : Nat → Int32} {S S0 B1 D : Nat → Int32} {H : Nat → Nat → Int32} {J : Nat → Int64} {L U Z W : Nat → Int32} {b e t : Nat → Nat} {len q hp K : Nat}
theorem j97_B (h5 : S 5 ≠ nI 0) : f_X9_statement_j97 N m (mset h2 m (S) B1 D (dI (e)) H J L U Z W) = some (mset h2 m (S) B1 D (dI (e)) H J L U Z W) := by
  unfold f_X9_statement_j97
  rw [onO_ms, m_expectB h5, Option.bind_some]
theorem tailL (hNN : 2000 < N) (hT : TxtB B b len) (hT1 : TxtB B1 b len) {Fc : Option (Int32 × zH)} {Fm : Option zH} (hs : SubL b0 h0 B b len S0 (fun S e => mset h2 m S B1 D (dI e) H J L U Z W) q Fc Fm) : SubL b0 h0 B b len S0 (fun S e => mset h2 m S B1 D (dI e) H J L U Z W) q (Fc.bind (tlC N (b0 + 4))) (Fm.bind (f_X9_statement_j97 N m)) := by
  rcases hs with ⟨k, S, e, a1, a2, a3⟩ | ⟨k, S, e, q', a1, a2, a3, a4⟩
  · obtain ⟨h, rl, V, cz, C, T, R, X, P, Q, c1, c2, c3, c4⟩ := id a3
    refine Or.inl ⟨k, S, e, ?_, ?_, a3⟩
    · rw [a1, Option.bind_some]
      exact tlC_0
    · rw [a2, Option.bind_some]
      exact j97_B c3
  · obtain ⟨h, rl, V, cz, C, T, R, X, P, Q, hp, K, t, c1, hA, hs4, hV, hcz, ⟨hD, hR, hO⟩, hL, hK⟩ := a3
    obtain ⟨hq, sq, tk, v12, ⟨pm, p1, p2, p3⟩, s3, s5⟩ := hA
    have hl := hT.1
    subst c1
    rcases Classical.em (sgAt b len q' 59) with hs | hs
    · obtain ⟨V', y1, y2, y3, y44⟩ := x_takeSign_y (N := N) (h := aset h (b0 + 4 + 4) (b0 + 1) rl T R X P Q) (q := b0 + 4) (g := b0 + 1) (V := V) (B := B) (cz := cz) (C := C) (p := q') (c := 59) (by omega) hq ⟨rfl, rfl⟩ (by omega) hT tk (by rw [sq]; exact hs)
      rw [sq] at y2
      have me := m_expect_y (N := N) (h := h2) (m := m) (B := B1) (D := D) (E := dI e) (H := H) (J := J) (L := L) (U := U) (Z := Z) (W := W) (S := S) (c := 59) (by omega) hT1 s3 p3 s5 p1 (by rw [p2]; exact hs)
      rw [p2] at me
      have hlt := hs.1
      have q3le := skp_le (b := b) (show q' + 1 ≤ len by omega)
      refine Or.inr ⟨_, upd S 4 (nI (q' + 1)), e, skp b len (q' + 1), ?_, ?_, GoodL_mk (C := C) (At_mk (by omega) y2 (by rw [y3 12 (by omega) (by omega) (by omega) (by omega) (by omega)]; exact v12) (upS_eq _ _ _) (by rw [upS_ne (by omega)]; exact s3) (by rw [upS_ne (by omega)]; exact s5)) hs4 hV hcz y3 SK_4 (upS_ne (by omega)) hD hR hO hL hK, by omega⟩
      · rw [a1, Option.bind_some]
        exact tlC_v (fun _ _ => cs_o7) y1 (Or.inr rfl)
      · rw [a2, Option.bind_some]
        unfold f_X9_statement_j97
        rw [onO_ms, show (59 : Int32) = nI 59 from rfl, me, Option.bind_some]
    · have xt := x_takeSign_n (N := N) (h := aset h (b0 + 4 + 4) (b0 + 1) rl T R X P Q) (q := b0 + 4) (g := b0 + 1) (V := V) (B := B) (cz := cz) (C := C) (p := q') (c := 59) hq ⟨rfl, rfl⟩ (by omega) hT tk (by rw [sq]; exact hs)
      rw [sq] at xt
      have me := m_expect_n (N := N) (h := h2) (m := m) (B := B1) (D := D) (E := dI e) (H := H) (J := J) (L := L) (U := U) (Z := Z) (W := W) (S := S) (c := 59) (by omega) (by omega) hT1 s3 p3 s5 p1 (by rw [p2]; exact hs)
      rw [p2] at me
      refine Or.inl ⟨_, mErr S q' (-nI 2) q', e, ?_, ?_, FailL_mk (rl := rl) (V' := errV V (-nI 2) q') (cz := cz) (C := C) (T := T) (X := X) (P := P) (Q := Q) ?_ (by rw [mErr_5]; exact errs_ne.1) ?_ hV.1 VK_err hO (LB_rul hL) hK (SKL_k SK_err)⟩
      · rw [a1, Option.bind_some]
        exact tlC_v (fun _ _ => cs_o7) xt (Or.inl rfl)
      · rw [a2, Option.bind_some]
        unfold f_X9_statement_j97
        rw [onO_ms, show (59 : Int32) = nI 59 from rfl, me, Option.bind_some]
      · unfold errV
        rw [upS_ne (by omega), upS_eq, mErr_5]
      · unfold errV mErr
        rw [upS_eq, upS_eq]
theorem m_ga9 : gA (mset h2 m (S) B1 D (dI (e)) H J L U Z W) m 9 9 = some (m + 3) := by simp only [gA_ms]
theorem m_st9 : stI (mset h2 m (S) B1 D (dI (e)) H J L U Z W) (m + 3) (nI 9) (nI 1) = some (mset h2 m (S) B1 D (dI (upN e 9 1)) H J L U Z W) := by
  simp (disch := omega) only [stI_ms, updI]
theorem m_once0 {x : Int32} (h14 : S 14 = nI 0) : f_X9_once N m (nI 0) x (mset h2 m (S) B1 D (dI (e)) H J L U Z W) = some (mset h2 m (upd S 14 (nI 1)) B1 D (dI (e)) H J L U Z W) := by
  have c1 : (((nI 0 >>> (nI 0 &&& nI 31)) &&& nI 1) = nI 1) = False := eq_false (by decide)
  have c2 : (nI 0 ||| (nI 1 <<< (nI 0 &&& nI 31))) = nI 1 := by decide
  simp (disch := omega) only [f_X9_once, f_X9_once_j19, onO_ms, gI_ms, pF_ms, h14, nlit, c1, c2, ↓reduceIte, Option.bind_some]
theorem m_once1 {p s : Nat} (h14 : S 14 = nI 1) (h5 : S 5 = nI 0) : f_X9_once N m (nI 0) (nI s) (mset h2 m (upd S 4 (nI p)) B1 D (dI e) H J L U Z W) = some (mset h2 m (upd (mErr S p (-nI 2) s) 14 (nI 1)) B1 D (dI e) H J L U Z W) := by
  have c1 : (((nI 1 >>> (nI 0 &&& nI 31)) &&& nI 1) = nI 1) = True := eq_true (by decide)
  have c2 : (nI 1 ||| (nI 1 <<< (nI 0 &&& nI 31))) = nI 1 := by decide
  have g14 : upd S 4 (nI p) 14 = nI 1 := by rw [upS_ne (by omega)]; exact h14
  have g14' : mErr S p (-nI 2) s 14 = nI 1 := (SK_err 14 (by omega) (by omega) (by omega) (by omega)).trans h14
  simp (disch := omega) only [f_X9_once, f_X9_once_j19, onO_ms, gI_ms, pF_ms, g14, g14', m_reportN h5, nlit, c1, c2, ↓reduceIte, Option.bind_some]
theorem stP (hNN : 2000 < N) (hS0 : b0 + 414 ≤ hS h0) (hG0 : GrpAt h0 (b0 + 1)) (hT : TxtB B b len) (hT1 : TxtB B1 b len) {k : zH} (hGL : GoodL b0 h0 B b len S0 k S e q) (h1q : 1 ≤ q) : SubL b0 h0 B b len S0 (fun S e => mset h2 m S B1 D (dI e) H J L U Z W) q (f_X7_takeStatement N (b0 + 4) k) (f_X9_statement N m (mset h2 m (S) B1 D (dI (e)) H J L U Z W)) := by
  obtain ⟨h, rl, V, cz, C, T, R, X, P, Q, hp, K, t, c1, hA, hs4, hV, hcz, ⟨hD, hR, hO⟩, hL, hK⟩ := hGL
  subst c1
  have hA0 := hA
  obtain ⟨hq, sq, tk, v12, ⟨pm, p1, p2, p3⟩, s3, s5⟩ := hA
  have hl := hT.1
  have mn := m_next (N := N) (h := h2) (m := m) (B := B1) (D := D) (E := dI e) (H := H) (J := J) (L := L) (U := U) (Z := Z) (W := W) (S := S) (by omega) hT1 s3 p3 p1
  rw [p2] at mn
  have oC : Oh 7 (b0 + 4) (cset h (b0 + 4) (b0 + 1) rl V B cz C T R X P Q) := fun _ _ => cs_o7
  have oM : ∀ (S E : Nat → Int32), Oh 9 m (mset h2 m S B1 D E H J L U Z W) := fun S E _ _ => onO_ms
  have y4 : gI (mset h2 m (upd S 4 (nI q)) B1 D (dI (e)) H J L U Z W) m 9 4 = some (nI q) := by simp only [gI_ms, upS_eq]
  have t5 := tk.2.1
  rw [sq] at t5
  have c5 : gI (cset h (b0 + 4) (b0 + 1) rl V B cz C T R X P Q) (b0 + 4) 7 5 = some (nI q) := by rw [cs_gI5, t5]
  have c11 : gI (cset h (b0 + 4) (b0 + 1) rl V B cz C T R X P Q) (b0 + 4) 7 11 = some (nI hp) := by
    unfold cset
    simp only [rg_I, hV.2.1]
  have xy : ∀ i, i < 9 → wdAt b len q i → f_X7_isWord N (b0 + 4) i (cset h (b0 + 4) (b0 + 1) rl V B cz C T R X P Q) = some (nI 1, (cset h (b0 + 4) (b0 + 1) rl V B cz C T R X P Q)) := fun i hi hw => x_isWord_y (by omega) hi hq hT tk (by rw [sq]; exact hw)
  have xn : ∀ i, i < 9 → ¬ wdAt b len q i → f_X7_isWord N (b0 + 4) i (cset h (b0 + 4) (b0 + 1) rl V B cz C T R X P Q) = some (nI 0, (cset h (b0 + 4) (b0 + 1) rl V B cz C T R X P Q)) := fun i hi hw => x_isWord_n (by omega) hi hq hT tk (by rw [sq]; exact hw)
  obtain ⟨mwy, mwn⟩ := m_words (N := N) (h2 := h2) (m := m) (D := D) (H := H) (J := J) (L := L) (U := U) (Z := Z) (W := W) (S := S) (E := dI e) (by omega) hq sq hT1 s3 s5
  have hG : GrpAt h (b0 + 1) := GrpAt_sim hG0 (fun k hk => Or.inl ((LB_rul hL).1 _ (by omega)))
  rcases Classical.em (wdAt b len q 1) with w1 | w1
  · rw [cst_1 oC (xy 1 (by omega) w1), mst_1 (oM _ _) (oM _ _) mn y4 (oM _ _) (mwy 1 (by omega) w1)]
    exact tailL hNN hT hT1 (plP hNN hT hT1 hA0 hs4 hV hcz hD hR hO hL hK w1)
  · rcases Classical.em (wdAt b len q 2) with w2 | w2
    · rw [cst_2 oC (xn 1 (by omega) w1) (xy 2 (by omega) w2), mst_2 (oM _ _) (oM _ _) mn y4 (oM _ _) (mwn 1 (by omega) w1) (mwy 2 (by omega) w2)]
      exact tailL hNN hT hT1 (caP hG hNN hT hT1 hA0 hs4 hV hcz hD hR hO hL hK w2)
    · rcases Classical.em (wdAt b len q 3) with w3 | w3
      · rw [cst_3 oC (xn 1 (by omega) w1) (xn 2 (by omega) w2) (xy 3 (by omega) w3), mst_3 (oM _ _) (oM _ _) mn y4 (oM _ _) (mwn 1 (by omega) w1) (mwn 2 (by omega) w2) (mwy 3 (by omega) w3)]
        exact tailL hNN hT hT1 (loP hNN hT hT1 hA0 hs4 hV hcz hD hR hO hL hK w3)
      · have xf := (cst_f (N := N) oC c5 cs_fail)
        rcases Classical.em (wdAt b len q 4) with w4 | w4
        · rcases Classical.em (hp = 0) with hp0 | hp0
          · have on := m_once0 (N := N) (h2 := h2) (m := m) (B1 := B1) (D := D) (H := H) (J := J) (L := L) (U := U) (Z := Z) (W := W) (e := e) (S := upd S 4 (nI (q + wdL 4))) (x := nI q) (by rw [upS_ne (by omega), hs4.2.2, hp0])
            rw [cst_4 oC (xn 1 (by omega) w1) (xn 2 (by omega) w2) (xn 3 (by omega) w3) (xy 4 (by omega) w4) (by rw [c11, hp0]), mst_4 (oM _ _) (oM _ _) mn y4 (oM _ _) (oM _ _) (mwn 1 (by omega) w1) (mwn 2 (by omega) w2) (mwn 3 (by omega) w3) (mwy 4 (by omega) w4) on m_ga9 m_st9]
            exact tailL hNN hT hT1 (prP hS0 hNN hT hT1 hA0 hs4 hV hcz hD hR hO hL hK hp0 h1q w4)
          · have hp1 : hp = 1 := by
              rcases hL with ⟨a, -⟩ | ⟨a, -⟩
              · exact absurd a hp0
              · exact a
            have on := m_once1 (N := N) (h2 := h2) (m := m) (B1 := B1) (D := D) (H := H) (J := J) (L := L) (U := U) (Z := Z) (W := W) (e := e) (S := S) (p := q + wdL 4) (s := q) (by rw [hs4.2.2, hp1]) s5
            have nb : upd (mErr S (q + wdL 4) (-nI 2) q) 14 (nI 1) 5 ≠ nI 0 := by rw [upS_ne (by omega), mErr_5]; exact errs_ne.1
            rw [cst_5 oC (xn 1 (by omega) w1) (xn 2 (by omega) w2) (xn 3 (by omega) w3) (xy 4 (by omega) w4) (by rw [c11, hp1]), mst_4 (oM _ _) (oM _ _) mn y4 (oM _ _) (oM _ _) (mwn 1 (by omega) w1) (mwn 2 (by omega) w2) (mwn 3 (by omega) w3) (mwy 4 (by omega) w4) on m_ga9 m_st9]
            refine Or.inl ⟨_, _, upN e 9 1, xf, ?_, FailL_mk (S' := upd (mErr S (q + wdL 4) (-nI 2) q) 14 (nI 1)) ?_ nb ?_ hV.1 VK_err hO (LB_rul hL) hK (SKL_tr (SKL_k SK_err) SKL_14)⟩
            · have sb := m_sumB (N := N) (h2 := h2) (m := m) (B1 := B1) (D := D) (E := dI (upN e 9 1)) (H := H) (J := J) (L := L) (U := U) (Z := Z) (W := W) (rm := f_X9_sumN N 7) (by omega) nb
              rw [show f_X9_sumN N 8 m = f_X9_sum N (f_X9_sumN N 7) m from rfl, sb, Option.bind_some]
              exact j97_B (e := upN e 9 1) nb
            · unfold errV
              rw [upS_ne (by omega), upS_eq, upS_ne (by omega), mErr_5]
            · unfold errV mErr
              rw [upS_eq, upS_ne (by omega), upS_eq]
        · have nb : mErr S q (-nI 2) q 5 ≠ nI 0 := by rw [mErr_5]; exact errs_ne.1
          rw [cst_6 oC (xn 1 (by omega) w1) (xn 2 (by omega) w2) (xn 3 (by omega) w3) (xn 4 (by omega) w4), mst_5 (oM _ _) (oM _ _) mn y4 (mwn 1 (by omega) w1) (mwn 2 (by omega) w2) (mwn 3 (by omega) w3) (mwn 4 (by omega) w4) (m_reportN s5)]
          refine Or.inl ⟨_, _, e, xf, j97_B nb, FailL_mk ?_ nb ?_ hV.1 VK_err hO (LB_rul hL) hK (SKL_k SK_err)⟩
          · unfold errV
            rw [upS_ne (by omega), upS_eq, mErr_5]
          · unfold errV mErr
            rw [upS_eq, upS_eq]
theorem GoodL_4 {k : zH} (hGL : GoodL b0 h0 B b len S0 k S e q) : GoodL b0 h0 B b len S0 k (upd S 4 (nI q)) e q := by
  obtain ⟨h, rl, V, cz, C, T, R, X, P, Q, hp, K, t, c1, hA, hs4, hV, hcz, hD, hL, hK⟩ := hGL
  obtain ⟨hq, sq, tk, v12, ⟨pm, p1, p2, p3⟩, s3, s5⟩ := hA
  exact ⟨h, rl, V, cz, C, T, R, X, P, Q, hp, K, t, c1, ⟨hq, sq, tk, v12, ⟨q, hq, sq, upS_eq _ _ _⟩, (upS_ne (by omega)).trans s3, (upS_ne (by omega)).trans s5⟩, ⟨(upS_ne (by omega)).trans hs4.1, (upS_ne (by omega)).trans hs4.2.1, (upS_ne (by omega)).trans hs4.2.2⟩, hV, hcz, hD, hL, SKL_tr hK (SKL_k SK_4)⟩
theorem cs_gI12 {r0 g : Nat} : gI (cset h r0 g rl V B cz C T R X P Q) r0 7 12 = some (V 12) := by
  unfold cset
  simp only [rg_I]
theorem cs_gI4 {r0 g : Nat} : gI (cset h r0 g rl V B cz C T R X P Q) r0 7 4 = some (V 4) := by
  unfold cset
  simp only [rg_I]
theorem rd_bad {n i : Nat} {r0 : Nat} {x : Int32} {k : zH} (g : gI k r0 7 12 = some x) (hx : ¬ x = nI 0) : f_X7_read_l68 N r0 (n + 1) (nI i) k = some (x, k) := by
  rw [f_X7_read_l68]
  by_cases h7 : (700 : Int32) ≤ nI i
  · rw [if_pos h7, g, Option.bind_some]
  · rw [if_neg h7, g, Option.bind_some, if_neg (show ¬ x = (0 : Int32) from hx), Option.bind_some]
theorem rd_end {n i : Nat} {r0 : Nat} {k : zH} (hi : i < 700) (g : gI k r0 7 12 = some (nI 0)) (g4 : gI k r0 7 4 = some (nI 0)) : f_X7_read_l68 N r0 (n + 1) (nI i) k = some (nI 0, k) := by
  rw [f_X7_read_l68, if_neg (show ¬ (700 : Int32) ≤ nI i from of_eq_false (nleF (a := 700) (b := i) (by omega) hi)), g, Option.bind_some, if_pos (show nI 0 = (0 : Int32) from rfl), g4, Option.bind_some, if_pos (show nI 0 = (0 : Int32) from rfl), Option.bind_some]
theorem rd_st {n i : Nat} {r0 : Nat} {x v : Int32} {k k' : zH} (o : Oh 7 r0 k) (hi : i < 700) (g : gI k r0 7 12 = some (nI 0)) (g4 : gI k r0 7 4 = some x) (hx : ¬ x = nI 0) (st : f_X7_takeStatement N r0 k = some (v, k')) : f_X7_read_l68 N r0 (n + 1) (nI i) k = f_X7_read_l68 N r0 n (nI (i + 1)) k' := by
  rw [f_X7_read_l68, if_neg (show ¬ (700 : Int32) ≤ nI i from of_eq_false (nleF (a := 700) (b := i) (by omega) hi)), g, Option.bind_some, if_pos (show nI 0 = (0 : Int32) from rfl), g4, Option.bind_some, if_neg (show ¬ x = (0 : Int32) from hx), o, st, Option.bind_some, show nI i + (1 : Int32) = nI (i + 1) from nadd i 1]
theorem ml_bad {n : Nat} {k1 : zH → Option (Int32 × zH)} {X : zH} (o : Oh 9 m X) (g : f_X9_isGood N m X = some (nI 0, X)) : f_X9_load_l126 N m k1 (n + 1) X = k1 X := by
  rw [f_X9_load_l126, o, g, Option.bind_some, if_pos (show (nI 0, X).1 = 0 from rfl)]
theorem ml_end {n : Nat} {k1 : zH → Option (Int32 × zH)} {X Y : zH} (o : Oh 9 m X) (g : f_X9_isGood N m X = some (nI 1, X)) (nx : f_X9_next N m X = some (-nI 1, Y)) : f_X9_load_l126 N m k1 (n + 1) X = k1 Y := by
  rw [f_X9_load_l126, o, g, Option.bind_some, if_neg (show ¬ (nI 1, X).1 = 0 from i1ne)]
  dsimp only
  rw [o, nx, Option.bind_some, if_pos (show (-nI 1, Y).1 = (-1 : Int32) from rfl)]
theorem ml_st {n : Nat} {k1 : zH → Option (Int32 × zH)} {X Y A : zH} {x : Int32} (o : Oh 9 m X) (oy : Oh 9 m Y) (g : f_X9_isGood N m X = some (nI 1, X)) (nx : f_X9_next N m X = some (x, Y)) (hx : ¬ x = -nI 1) (st : f_X9_statement N m Y = some A) : f_X9_load_l126 N m k1 (n + 1) X = f_X9_load_l126 N m k1 n A := by
  rw [f_X9_load_l126, o, g, Option.bind_some, if_neg (show ¬ (nI 1, X).1 = 0 from i1ne)]
  dsimp only
  rw [o, nx, Option.bind_some, if_neg (show ¬ (x, Y).1 = (-1 : Int32) from hx)]
  dsimp only
  rw [oy, st, Option.bind_some]
theorem nI_nm {c : Nat} (hc : c < 256) : ¬ nI c = -nI 1 := fun h9 => nI_pos (n := c) (by omega) (by rw [h9]; decide)
def EndL (b0 : Nat) (h0 : zH) (B : Nat → Int32) (b : Nat → Nat) (len : Nat) (S0 : Nat → Int32) (Y : (Nat → Int32) → (Nat → Nat) → zH) (k1 : zH → Option (Int32 × zH)) (Fc : Option (Int32 × zH)) (Fm : Option (Int32 × zH)) : Prop :=
  ∃ (k : zH) (S : Nat → Int32) (e : Nat → Nat), Fm = k1 (Y S e) ∧ ((Fc = some (S 5, k) ∧ FailL b0 h0 B S0 k S) ∨ (Fc = some (nI 0, k) ∧ ∃ q, GoodL b0 h0 B b len S0 k S e q))
theorem loopL (hNN : 2000 < N) (hS0 : b0 + 414 ≤ hS h0) (hG0 : GrpAt h0 (b0 + 1)) (hT : TxtB B b len) (hT1 : TxtB B1 b len) {k1 : zH → Option (Int32 × zH)} : ∀ (w i n n' : Nat) (k : zH) (S : Nat → Int32) (e : Nat → Nat) (q : Nat), GoodL b0 h0 B b len S0 k S e q → len ≤ q + w → i < q → w + 1 < n → w + 1 < n' → EndL b0 h0 B b len S0 (fun S e => mset h2 m S B1 D (dI e) H J L U Z W) k1 (f_X7_read_l68 N (b0 + 4) n (nI i) k) (f_X9_load_l126 N m k1 n' (mset h2 m (S) B1 D (dI (e)) H J L U Z W)) := by
  have hl := hT.1
  have oM : ∀ (S E : Nat → Int32), Oh 9 m (mset h2 m S B1 D E H J L U Z W) := fun S E _ _ => onO_ms
  intro w
  induction w with
  | zero =>
    intro i n n' k S e q hGL hw hi hn hn'
    obtain ⟨n, rfl⟩ : ∃ k, n = k + 1 := ⟨n - 1, by omega⟩
    obtain ⟨n', rfl⟩ : ∃ k, n' = k + 1 := ⟨n' - 1, by omega⟩
    have hG4 := GoodL_4 hGL
    obtain ⟨h, rl, V, cz, C, T, R, X, P, Q, hp, K, t, c1, hA, -⟩ := hGL
    obtain ⟨hq, sq, tk, v12, ⟨pm, p1, p2, p3⟩, s3, s5⟩ := hA
    have mn := m_next (N := N) (h := h2) (m := m) (B := B1) (D := D) (E := dI e) (H := H) (J := J) (L := L) (U := U) (Z := Z) (W := W) (S := S) (by omega) hT1 s3 p3 p1
    rw [p2, nxt_n (by omega)] at mn
    have t4 := tk.2.2.1
    rw [sq, show tkK b len q = 0 from if_pos (by omega)] at t4
    refine ⟨k, upd S 4 (nI q), e, ml_end (oM _ _) (m_good s5) mn, Or.inr ⟨rd_end (by omega) (by rw [c1, cs_gI12, v12]) (by rw [c1, cs_gI4, t4]), q, hG4⟩⟩
  | succ w ih =>
    intro i n n' k S e q hGL hw hi hn hn'
    obtain ⟨n, rfl⟩ : ∃ k, n = k + 1 := ⟨n - 1, by omega⟩
    obtain ⟨n', rfl⟩ : ∃ k, n' = k + 1 := ⟨n' - 1, by omega⟩
    have hG4 := GoodL_4 hGL
    have sp := stP (N := N) (m := m) (h2 := h2) (D := D) (H := H) (J := J) (L := L) (U := U) (Z := Z) (W := W) hNN hS0 hG0 hT hT1 hG4 (by omega)
    obtain ⟨h, rl, V, cz, C, T, R, X, P, Q, hp, K, t, c1, hA, -⟩ := hGL
    obtain ⟨hq, sq, tk, v12, ⟨pm, p1, p2, p3⟩, s3, s5⟩ := hA
    have mn := m_next (N := N) (h := h2) (m := m) (B := B1) (D := D) (E := dI e) (H := H) (J := J) (L := L) (U := U) (Z := Z) (W := W) (S := S) (by omega) hT1 s3 p3 p1
    rw [p2] at mn
    have t4 := tk.2.2.1
    rw [sq] at t4
    have g12 : gI k (b0 + 4) 7 12 = some (nI 0) := by rw [c1, cs_gI12, v12]
    by_cases hlt : q < len
    · have k0 : ¬ nI (tkK b len q) = nI 0 := by
        have k4 := tkK_lt b len q
        refine of_eq_false (neqF (by omega) (by omega) fun h9 => ?_)
        unfold tkK at h9
        rw [if_neg (by omega)] at h9
        split at h9
        · omega
        · split at h9 <;> omega
      rw [nxt_y hlt] at mn
      have bq := (hT1.2 q hlt).1
      have ok : Oh 7 (b0 + 4) k := by
        rw [c1]
        exact fun _ _ => cs_o7
      rcases sp with ⟨k', S', e', a1, a2, a3⟩ | ⟨k', S', e', q', a1, a2, a3, a4⟩
      · dsimp only at a2
        have h1 := rd_st (n := n) ok (show i < 700 by omega) g12 (by rw [c1, cs_gI4, t4]) k0 a1
        have h2' := ml_st (n := n') (k1 := k1) (oM _ _) (oM _ _) (m_good s5) mn (nI_nm bq) a2
        obtain ⟨h', rl', V', cz', C', T', R', X', P', Q', d1, d2, d3, d4⟩ := id a3
        obtain ⟨n, rfl⟩ : ∃ k, n = k + 1 := ⟨n - 1, by omega⟩
        obtain ⟨n', rfl⟩ : ∃ k, n' = k + 1 := ⟨n' - 1, by omega⟩
        refine ⟨k', S', e', h2'.trans (ml_bad (oM _ _) (m_bad d3)), Or.inl ⟨h1.trans (rd_bad ?_ d3), a3⟩⟩
        rw [d1, cs_gI12, d2]
      · dsimp only at a2
        have h1 := rd_st (n := n) ok (show i < 700 by omega) g12 (by rw [c1, cs_gI4, t4]) k0 a1
        have h2' := ml_st (n := n') (k1 := k1) (oM _ _) (oM _ _) (m_good s5) mn (nI_nm bq) a2
        rw [h1, h2']
        exact ih (i + 1) n n' k' S' e' q' a3 (by omega) (by omega) (by omega) (by omega)
    · rw [nxt_n hlt] at mn
      rw [show tkK b len q = 0 from if_pos (by omega)] at t4
      refine ⟨k, upd S 4 (nI q), e, ml_end (oM _ _) (m_good s5) mn, Or.inr ⟨rd_end (by omega) g12 (by rw [c1, cs_gI4, t4]), q, hG4⟩⟩
end M99998

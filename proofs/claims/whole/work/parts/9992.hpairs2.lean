/-! ===== pairs: reach, reaches, fewest, cheapest, opening ===== -/
section M9992m
variable {h : zH} {m N : Nat} {S B E : Nat → Int32} {H : Nat → Nat → Int32} {J : Nat → Int64} {L U Z W : Nat → Int32} {d : Nat → Nat}
theorem m_reach_p {x : Int32} (h1 : d 1 < 100) (hx : ¬ inP x (d 1)) : f_X9_reach N m x (mset h m S B (dI d) E H J L U Z W) = some (nI 0, mset h m (upd S 0 (nI 1)) B (dI d) E H J L U Z W) := by
  have n1 := m_noPlayer' (N := N) (h := h) (m := m) (B := B) (E := E) (L := L) (U := U) (Z := Z) (W := W) (S := upd S 0 (nI 0)) (H := H) (J := J) h1 (upS_eq _ _ _) hx
  simp (disch := omega) only [f_X9_reach, n1, upS_upS, nlit, nltT, nltF, nleT, nleF, neqT, neqF, nadd, nmul, nsub, ↓reduceIte, Option.bind_some, onO_ms, gI_ms, gA_ms, pF_ms, ldI_ms, stI_ms, dI_app, updI, upN_eq, upN_ne, Nat.add_zero, Nat.zero_add]
theorem m_fewest_p {x : Int32} (h1 : d 1 < 100) (hx : ¬ inP x (d 1)) : f_X9_fewest N m x (mset h m S B (dI d) E H J L U Z W) = some (nI 0, mset h m (upd S 0 (nI 1)) B (dI d) E H J L U Z W) := by
  have n1 := m_noPlayer' (N := N) (h := h) (m := m) (B := B) (E := E) (L := L) (U := U) (Z := Z) (W := W) (S := upd S 0 (nI 0)) (H := H) (J := J) h1 (upS_eq _ _ _) hx
  simp (disch := omega) only [f_X9_fewest, n1, upS_upS, nlit, nltT, nltF, nleT, nleF, neqT, neqF, nadd, nmul, nsub, ↓reduceIte, Option.bind_some, onO_ms, gI_ms, gA_ms, pF_ms, ldI_ms, stI_ms, dI_app, updI, upN_eq, upN_ne, Nat.add_zero, Nat.zero_add]
theorem m_cheapest_p {x : Int32} (h1 : d 1 < 100) (hx : ¬ inP x (d 1)) : f_X9_cheapest N m x (mset h m S B (dI d) E H J L U Z W) = some (nI 0, mset h m (upd S 0 (nI 1)) B (dI d) E H J L U Z W) := by
  have n1 := m_noPlayer' (N := N) (h := h) (m := m) (B := B) (E := E) (L := L) (U := U) (Z := Z) (W := W) (S := upd S 0 (nI 0)) (H := H) (J := J) h1 (upS_eq _ _ _) hx
  simp (disch := omega) only [f_X9_cheapest, n1, upS_upS, nlit, nltT, nltF, nleT, nleF, neqT, neqF, nadd, nmul, nsub, ↓reduceIte, Option.bind_some, onO_ms, gI_ms, gA_ms, pF_ms, ldI_ms, stI_ms, dI_app, updI, upN_eq, upN_ne, Nat.add_zero, Nat.zero_add]
theorem m_opening_p {x : Int32} (h1 : d 1 < 100) (hx : ¬ inP x (d 1)) : f_X9_opening N m x (mset h m S B (dI d) E H J L U Z W) = some (nI 0, mset h m (upd S 0 (nI 1)) B (dI d) E H J L U Z W) := by
  have n1 := m_noPlayer' (N := N) (h := h) (m := m) (B := B) (E := E) (L := L) (U := U) (Z := Z) (W := W) (S := upd S 0 (nI 0)) (H := H) (J := J) h1 (upS_eq _ _ _) hx
  simp (disch := omega) only [f_X9_opening, n1, upS_upS, nlit, nltT, nltF, nleT, nleF, neqT, neqF, nadd, nmul, nsub, ↓reduceIte, Option.bind_some, onO_ms, gI_ms, gA_ms, pF_ms, ldI_ms, stI_ms, dI_app, updI, upN_eq, upN_ne, Nat.add_zero, Nat.zero_add]
theorem m_generated_p {x : Int32} (h1 : d 1 < 100) (hx : ¬ inP x (d 1)) : f_X9_generated N m x (mset h m S B (dI d) E H J L U Z W) = some (nI 0, mset h m (upd S 0 (nI 1)) B (dI d) E H J L U Z W) := by
  have n1 := m_noPlayer' (N := N) (h := h) (m := m) (B := B) (E := E) (L := L) (U := U) (Z := Z) (W := W) (S := upd S 0 (nI 0)) (H := H) (J := J) h1 (upS_eq _ _ _) hx
  simp (disch := omega) only [f_X9_generated, n1, upS_upS, nlit, nltT, nltF, nleT, nleF, neqT, neqF, nadd, nmul, nsub, ↓reduceIte, Option.bind_some, onO_ms, gI_ms, gA_ms, pF_ms, ldI_ms, stI_ms, dI_app, updI, upN_eq, upN_ne, Nat.add_zero, Nat.zero_add]
theorem m_reaches_p {x y : Int32} (h1 : d 1 < 100) (hx : ¬ inP x (d 1)) : f_X9_reaches N m x y (mset h m S B (dI d) E H J L U Z W) = some (nI 0, mset h m (upd S 0 (nI 1)) B (dI d) E H J L U Z W) := by
  have n1 := m_noPlayer' (N := N) (h := h) (m := m) (B := B) (E := E) (L := L) (U := U) (Z := Z) (W := W) (S := upd S 0 (nI 0)) (H := H) (J := J) h1 (upS_eq _ _ _) hx
  simp (disch := omega) only [f_X9_reaches, n1, upS_upS, nlit, nltT, nltF, nleT, nleF, neqT, neqF, nadd, nmul, nsub, ↓reduceIte, Option.bind_some, onO_ms, gI_ms, gA_ms, pF_ms, ldI_ms, stI_ms, dI_app, updI, upN_eq, upN_ne, Nat.add_zero, Nat.zero_add]
theorem m_reaches_e {x y : Int32} (hNN : 10 < N) (h1 : d 1 < 100) (hn : inN (d 0)) (hx : inP x (d 1)) (hy : (eltI (d 0) y).isSome = false) : f_X9_reaches N m x y (mset h m S B (dI d) E H J L U Z W) = some (nI 0, mset h m (upd S 0 (nI 2)) B (dI d) E H J L U Z W) := by
  have n1 := m_noPlayer (N := N) (h := h) (m := m) (B := B) (E := E) (L := L) (U := U) (Z := Z) (W := W) (S := upd S 0 (nI 0)) (H := H) (J := J) h1 (upS_eq _ _ _) hx
  have n2 := m_noElement' (N := N) (h := h) (m := m) (B := B) (E := E) (L := L) (U := U) (Z := Z) (W := W) (S := upd S 0 (nI 0)) (H := H) (J := J) (x := y) (y := 2) hNN hn (upS_eq _ _ _) hy (by omega) (by omega)
  simp (disch := omega) only [f_X9_reaches, n1, n2, upS_upS, nlit, nltT, nltF, nleT, nleF, neqT, neqF, nadd, nmul, nsub, ↓reduceIte, Option.bind_some, onO_ms, gI_ms, gA_ms, pF_ms, ldI_ms, stI_ms, dI_app, updI, upN_eq, upN_ne, Nat.add_zero, Nat.zero_add]
end M9992m
section M9992
variable {h h' h1 : zH} {b0 K N q z : Nat} {ea : Int32} {d : Nat → Nat} {t : Nat → Nat} {hd : Nat → Nat → Nat} {hK : Nat → Nat} {ht : Nat → Nat → Nat} {B : Nat → Int32}
def prodD (d : Nat → Nat) : Nat := prodF (bidE d) (d 5) 0 0
theorem prodD_in (hD : GoodD d) : prodD d < fctN (d 0) := by
  obtain ⟨⟨g0, g1, g2, g3, g4, g5, g7⟩, gb, gl, gp, gm⟩ := hD
  exact prodF_in g0 (bidE d) (d 5) 0 0 (Nat.lt_trans Nat.zero_lt_one (fct_pos g0)) (fun j _ hj => (isN_idx g0 (gb j (by omega)).2.1).1)
theorem w_winning (hNN : 1000 < N) (hG : GrpAt h (b0 + 1)) (hD : GoodD d) (hA : AucAt b0 h (b0 + 46) d K t) : f_X0_winningElement N (b0 + 46) h = some (nI (invN (prodD d)), h) := by
  have hP := prodD_in hD
  have f8 := fct_le hD.1.1
  have k1 := w_prod (N := N) (s := 0) (by omega) hG hD hA (Nat.zero_le (d 5)) (Nat.le_refl _)
  rw [Nat.sub_zero] at k1
  replace k1 : f_X0_productOfBids N (b0 + 46) (nI 0) (nI (d 5)) h = some (nI (prodD d), h) := k1
  have k2 := w_size_31 (N := N) hD hA
  have k3 := x_opposite (N := N) hG (by omega) (show prodD d < 120 by omega)
  have kA := w_A hD hA
  have k0 : gA h (b0 + 46) 0 0 = some (b0 + 1) := by
    obtain ⟨rl, T, R, X, P, Q, ea, -⟩ := hA
    have k := (gA_a (h := h) (a := b0 + 46) (g := b0 + 1) (rl := rl) (T := T) (R := R) (X := X) (P := P) (Q := Q)).1
    rw [ea] at k
    exact k
  simp only [f_X0_winningElement, k0, kA, w_o6 hA isR_31, k2, w_o0 hA, nlit, k1, w_o2 hG, k3, Option.bind_some]
theorem PR_reach (hNN : 54400 < N) (hW : WC b0 h (d, K, t, (q, hd, hK, ht), ea, z, B)) (x : Int32) : PairT b0 (f_X8_reach N b0 x) (f_X9_reach N (b0 + 395) x) cRc h (d, K, t, (q, hd, hK, ht), ea, z, B) := by
  obtain ⟨⟨⟨hGo, hG, hS0⟩, hBr⟩, ⟨hA, hD, hC⟩, hH, hHG⟩ := id hW
  obtain ⟨⟨g0, g1, g2, g3, g4, g5, g7⟩, gb, gl, gp, gm⟩ := id hD
  have hGo : Gob b0 h ea := hGo
  have kT := w_T hD hA
  have kA := w_A hD hA
  have e2 : (nI 1 = nI 0) = False := eq_false (by decide)
  have hq8 : q ≤ 8 := by obtain ⟨o, -, h9, -⟩ := hH; exact h9
  have h1f := Nat.lt_trans Nat.zero_lt_one (fct_pos g0)
  have f8 := fct_le g0
  obtain ⟨xx, yy, czz, A0, F0, τ0, hsf⟩ := Han_self hBr.2.1
  have o3 : ∀ G : Option zH, onO 3 (b0 + 390) h G = G := fun G => by rw [← hsf]; exact hs_o3
  have o3i : ∀ G : Option (Int32 × zH), onO 3 (b0 + 390) h G = G := fun G => by rw [← hsf]; exact hs_o3
  rcases inP_cases x (d 1) with ⟨p, hp, rfl⟩ | ⟨hx, -⟩
  · skip
    obtain ⟨p8, pw', pc⟩ := gp p hp
    have hp5 : p < 5 := by omega
    have p2 := pow2_le p8
    have k1 := w_existing (N := N) hGo hD hA hp
    obtain ⟨C', τ', st, sR, sI⟩ := x_study (N := N) (p := p) (x := xx) (y := yy) (z := czz) (C := A0) (F := F0) (τ := τ0) (by omega) hG hD hA hp
    rw [hsf] at st
    have hGo2 : Gob b0 (hset h (b0 + 390) (b0 + 1) (nI (d (11 + 19 * p + 1))) (nI (2 ^ d (11 + 19 * p + 1))) C' τ' czz F0) ea := (rs_out (by omega)).trans hGo
    have hA2 := AucAt_hs (x := nI (d (11 + 19 * p + 1))) (y := nI (2 ^ d (11 + 19 * p + 1))) (z := czz) (C := C') (F := F0) (τ := τ') hA
    have hG2 := GrpAt_hs (x := nI (d (11 + 19 * p + 1))) (y := nI (2 ^ d (11 + 19 * p + 1))) (z := czz) (C := C') (F := F0) (τ := τ') hG
    have hGc : ∀ c, c < d (11 + 19 * p + 1) → cardG d p c < fctN (d 0) := fun c hc => (isN_idx g0 (pc c hc).1).1
    have hG12 : ∀ c, c < d (11 + 19 * p + 1) → cardG d p c < 120 := fun c hc => by have := hGc c hc; omega
    have ct := x_countReached (N := N) (h := h) (b0 := b0) (C := C') (τ := τ') (z := czz) (F := F0) (by omega) p8
    refine P_hand (v := nI (cntR (fun e => anyR (fun m => AT τ' m e) (2 ^ d (11 + 19 * p + 1) - 1) 1) 120 0 0)) g0 hW (x := nI (d (11 + 19 * p + 1))) (y := nI (2 ^ d (11 + 19 * p + 1))) (A := C') (τ := τ') (cz := czz) (F := F0) ?_ (fun h2 S B1 E H J L U Z W hL => ?_)
    · simp only [f_X8_reach, w_g4 hGo, w_o8 hGo, k1, w_g2 hGo, kT, o3, st, w_g4 hGo2, hs_o3, ct, zth, Option.bind_some]
    · have n1 := m_noPlayer (N := N) (h := h2) (m := b0 + 395) (B := B1) (E := E) (H := H) (J := J) (L := L) (U := U) (Z := Z) (W := W) (S := upd S 0 (nI 0)) (x := nI p) (by omega) (upS_eq _ _ _) ⟨p, hp, rfl⟩
      have n2 := m_neutral (N := N) (h := mset h2 (b0 + 395) (upd S 0 (nI 0)) B1 (dI d) E H J L U Z W) g0
      obtain ⟨L', U', Z', l1, l2, l3⟩ := m_layFrom (N := N) (h := h2) (m := b0 + 395) (B := B1) (E := E) (H := H) (J := J) (L := L) (U := U) (Z := Z) (W := W) (S := upd S 0 (nI 0)) (p := p) (but := 9) (a := 0) (butv := -nI 1) hNN hD hp (by rw [upS_ne (by omega), upS_ne (by omega)]; exact hL) h1f (fun c hc => propext ⟨fun h9 => absurd h9 (fun h8 => nI_nn (show c < 2 ^ 31 by omega) (by rw [h8]; decide)), fun h9 => by omega⟩)
      have r1 := m_reach_l (N := N) (h := h2) (m := b0 + 395) (B := B1) (E := E) (H := H) (J := J) (L := L') (U := U') (Z := Z') (W := W) (S := upd (upd (upd S 0 (nI 0)) 20 (nI (d 0))) 19 (nI (fctN (d 0)))) (by omega) g0 hp5 p8 (upS_eq _ _ _) l2 (fctN (d 0)) 0 N 0 (by omega) (by omega) (by omega)
      have eq1 : cntR (fun e => anyR (fun m => AT τ' m e) (2 ^ d (11 + 19 * p + 1) - 1) 1) 120 0 0 = cntR (fun i => anyR (fun j => decide (¬ Z' (120 * j + i) = nI 0)) (2 ^ d (11 + 19 * p + 1) - 1) 1) (fctN (d 0)) 0 0 := by
        have sp := cntR_split (fun e => anyR (fun m => AT τ' m e) (2 ^ d (11 + 19 * p + 1) - 1) 1) (fctN (d 0)) (120 - fctN (d 0)) 0 0
        rw [show fctN (d 0) + (120 - fctN (d 0)) = 120 by omega] at sp
        rw [sp, cntR_more (120 - fctN (d 0)) _ _ (fun j h1 h2 => by
          cases hb : anyR (fun m => AT τ' m j) (2 ^ d (11 + 19 * p + 1) - 1) 1 with
          | false => rfl
          | true =>
            obtain ⟨m, m1, m2, m3⟩ := (anyR_iff _ _ _).mp hb
            have := sR m j (by omega) (by omega) m3
            omega)]
        refine cntR_pi g0 (fun e he => anyR_congr _ _ (fun j h1 h2 => ?_))
        exact bool_iff ((sI j e (by omega) he).trans (l3 j e (by omega) he).symm)
      rw [eq1]
      refine ⟨L', U', Z', W, ?_, l2⟩
      refine Eq.trans ?_ r1
      simp (disch := omega) only [f_X9_reach, n1, n2, l1, nlit, nltT, nltF, nleT, nleF, neqT, neqF, nadd, nmul, nsub, ↓reduceIte, Option.bind_some, onO_ms, gI_ms, gA_ms, pF_ms, ldI_ms, stI_ms, dI_app, updI, upN_eq, upN_ne, Nat.add_zero, Nat.zero_add]
  · have k1 := w_nexisting (N := N) hGo hD hA hx
    refine P_thr (k := 2) (c := 1) hW ?_ rfl (by omega) (by omega) (fun h2 S B1 E H J L U Z W => m_reach_p (by omega) hx)
    simp only [f_X8_reach, w_g4 hGo, w_o8 hGo, k1, zth, Option.bind_some]
theorem PR_reaches (hNN : 54400 < N) (hW : WC b0 h (d, K, t, (q, hd, hK, ht), ea, z, B)) (x y : Int32) : PairT b0 (f_X8_reaches N b0 x y) (f_X9_reaches N (b0 + 395) x y) cPl h (d, K, t, (q, hd, hK, ht), ea, z, B) := by
  obtain ⟨⟨⟨hGo, hG, hS0⟩, hBr⟩, ⟨hA, hD, hC⟩, hH, hHG⟩ := id hW
  obtain ⟨⟨g0, g1, g2, g3, g4, g5, g7⟩, gb, gl, gp, gm⟩ := id hD
  have hGo : Gob b0 h ea := hGo
  have kT := w_T hD hA
  have kA := w_A hD hA
  have e2 : (nI 1 = nI 0) = False := eq_false (by decide)
  have hq8 : q ≤ 8 := by obtain ⟨o, -, h9, -⟩ := hH; exact h9
  have h1f := Nat.lt_trans Nat.zero_lt_one (fct_pos g0)
  have f8 := fct_le g0
  obtain ⟨xx, yy, czz, A0, F0, τ0, hsf⟩ := Han_self hBr.2.1
  have o3 : ∀ G : Option zH, onO 3 (b0 + 390) h G = G := fun G => by rw [← hsf]; exact hs_o3
  have o3i : ∀ G : Option (Int32 × zH), onO 3 (b0 + 390) h G = G := fun G => by rw [← hsf]; exact hs_o3
  have ky := w_elementOf (N := N) (x := y) (by omega) hGo hG hD hA
  rcases inP_cases x (d 1) with ⟨p, hp, rfl⟩ | ⟨hx, -⟩
  · skip
    obtain ⟨p8, pw', pc⟩ := gp p hp
    have hp5 : p < 5 := by omega
    have p2 := pow2_le p8
    have k1 := w_existing (N := N) hGo hD hA hp
    obtain ⟨C', τ', st, sR, sI⟩ := x_study (N := N) (p := p) (x := xx) (y := yy) (z := czz) (C := A0) (F := F0) (τ := τ0) (by omega) hG hD hA hp
    rw [hsf] at st
    have hGo2 : Gob b0 (hset h (b0 + 390) (b0 + 1) (nI (d (11 + 19 * p + 1))) (nI (2 ^ d (11 + 19 * p + 1))) C' τ' czz F0) ea := (rs_out (by omega)).trans hGo
    have hA2 := AucAt_hs (x := nI (d (11 + 19 * p + 1))) (y := nI (2 ^ d (11 + 19 * p + 1))) (z := czz) (C := C') (F := F0) (τ := τ') hA
    have hG2 := GrpAt_hs (x := nI (d (11 + 19 * p + 1))) (y := nI (2 ^ d (11 + 19 * p + 1))) (z := czz) (C := C') (F := F0) (τ := τ') hG
    have hGc : ∀ c, c < d (11 + 19 * p + 1) → cardG d p c < fctN (d 0) := fun c hc => (isN_idx g0 (pc c hc).1).1
    have hG12 : ∀ c, c < d (11 + 19 * p + 1) → cardG d p c < 120 := fun c hc => by have := hGc c hc; omega
    cases hy : eltI (d 0) y with
    | none =>
      rw [hy] at ky
      refine P_thr (k := 1) (c := 2) hW ?_ rfl (by omega) (by omega) (fun h2 S B1 E H J L U Z W => m_reaches_e (by omega) (by omega) g0 ⟨p, hp, rfl⟩ (by rw [hy]; rfl))
      simp only [f_X8_reaches, w_o8 hGo, k1, ky, zth, Option.bind_some]
    | some e =>
      rw [hy] at ky
      replace ky : f_X8_elementOf N b0 y h = some (.inl (nI e), h) := ky
      obtain ⟨y1, y2⟩ := eltI_some g0 hy
      subst y2
      have ct := x_isReached (N := N) (h := h) (b0 := b0) (C := C') (τ := τ') (z := czz) (F := F0) (e := e) (by omega) p8 (by omega)
      refine P_hand (v := b2 (anyR (fun m => AT τ' m e) (2 ^ d (11 + 19 * p + 1) - 1) 1)) g0 hW (x := nI (d (11 + 19 * p + 1))) (y := nI (2 ^ d (11 + 19 * p + 1))) (A := C') (τ := τ') (cz := czz) (F := F0) ?_ (fun h2 S B1 E H J L U Z W hL => ?_)
      · simp only [f_X8_reaches, w_g4 hGo, w_o8 hGo, k1, ky, w_g2 hGo, kT, o3, st, w_g4 hGo2, hs_o3, ct, zB_b2, zth, Option.bind_some]
      · have n1 := m_noPlayer (N := N) (h := h2) (m := b0 + 395) (B := B1) (E := E) (H := H) (J := J) (L := L) (U := U) (Z := Z) (W := W) (S := upd S 0 (nI 0)) (x := nI p) (by omega) (upS_eq _ _ _) ⟨p, hp, rfl⟩
        have n3 := m_noElement (N := N) (h := h2) (m := b0 + 395) (B := B1) (E := E) (H := H) (J := J) (L := L) (U := U) (Z := Z) (W := W) (S := upd S 0 (nI 0)) (x := nI (numN (d 0) e)) (y := nI 2) (by omega) g0 (upS_eq _ _ _) (by rw [hy]; rfl)
        have n2 := m_neutral (N := N) (h := mset h2 (b0 + 395) (upd S 0 (nI 0)) B1 (dI d) E H J L U Z W) g0
        obtain ⟨L', U', Z', l1, l2, l3⟩ := m_layFrom (N := N) (h := h2) (m := b0 + 395) (B := B1) (E := E) (H := H) (J := J) (L := L) (U := U) (Z := Z) (W := W) (S := upd S 0 (nI 0)) (p := p) (but := 9) (a := 0) (butv := -nI 1) hNN hD hp (by rw [upS_ne (by omega), upS_ne (by omega)]; exact hL) h1f (fun c hc => propext ⟨fun h9 => absurd h9 (fun h8 => nI_nn (show c < 2 ^ 31 by omega) (by rw [h8]; decide)), fun h9 => by omega⟩)
        have r1 := m_isReached (N := N) (h := h2) (m := b0 + 395) (B := B1) (E := E) (H := H) (J := J) (L := L') (U := U') (Z := Z') (W := W) (S := upd (upd (upd S 0 (nI 0)) 20 (nI (d 0))) 19 (nI (fctN (d 0)))) (e := e) (by omega) g0 hp5 p8 l2 y1
        have eq1 : anyR (fun m => AT τ' m e) (2 ^ d (11 + 19 * p + 1) - 1) 1 = anyR (fun j => AZ Z' (d 0) j e) (2 ^ d (11 + 19 * p + 1) - 1) 1 := anyR_congr _ _ (fun j h1 h2 => bool_iff ((sI j e (by omega) y1).trans (l3 j e (by omega) y1).symm))
        rw [eq1]
        refine ⟨L', U', Z', W, ?_, l2⟩
        simp (disch := omega) only [f_X9_reaches, n1, n2, n3, l1, r1, zB_b2, nlit, nltT, nltF, nleT, nleF, neqT, neqF, nadd, nmul, nsub, ↓reduceIte, Option.bind_some, onO_ms, gI_ms, gA_ms, pF_ms, ldI_ms, stI_ms, dI_app, updI, upN_eq, upN_ne, Nat.add_zero, Nat.zero_add]
  · have k1 := w_nexisting (N := N) hGo hD hA hx
    refine P_thr (k := 2) (c := 1) hW ?_ rfl (by omega) (by omega) (fun h2 S B1 E H J L U Z W => m_reaches_p (by omega) hx)
    simp only [f_X8_reaches, w_o8 hGo, k1, zth, Option.bind_some]
theorem PR_fewest (hNN : 54400 < N) (hW : WC b0 h (d, K, t, (q, hd, hK, ht), ea, z, B)) (x : Int32) : PairT b0 (f_X8_fewest N b0 x) (f_X9_fewest N (b0 + 395) x) cRc h (d, K, t, (q, hd, hK, ht), ea, z, B) := by
  obtain ⟨⟨⟨hGo, hG, hS0⟩, hBr⟩, ⟨hA, hD, hC⟩, hH, hHG⟩ := id hW
  obtain ⟨⟨g0, g1, g2, g3, g4, g5, g7⟩, gb, gl, gp, gm⟩ := id hD
  have hGo : Gob b0 h ea := hGo
  have kT := w_T hD hA
  have kA := w_A hD hA
  have e2 : (nI 1 = nI 0) = False := eq_false (by decide)
  have hq8 : q ≤ 8 := by obtain ⟨o, -, h9, -⟩ := hH; exact h9
  have h1f := Nat.lt_trans Nat.zero_lt_one (fct_pos g0)
  have f8 := fct_le g0
  obtain ⟨xx, yy, czz, A0, F0, τ0, hsf⟩ := Han_self hBr.2.1
  have o3 : ∀ G : Option zH, onO 3 (b0 + 390) h G = G := fun G => by rw [← hsf]; exact hs_o3
  have o3i : ∀ G : Option (Int32 × zH), onO 3 (b0 + 390) h G = G := fun G => by rw [← hsf]; exact hs_o3
  have hP := prodD_in hD
  have hPi := inv_in g0 hP
  have hb2 : ∀ k, k < d 5 → isN (d 0) (d (118 + 3 * k + 1)) := fun k hk => (gb k hk).2.1
  rcases inP_cases x (d 1) with ⟨p, hp, rfl⟩ | ⟨hx, -⟩
  · skip
    obtain ⟨p8, pw', pc⟩ := gp p hp
    have hp5 : p < 5 := by omega
    have p2 := pow2_le p8
    have k1 := w_existing (N := N) hGo hD hA hp
    obtain ⟨C', τ', st, sR, sI⟩ := x_study (N := N) (p := p) (x := xx) (y := yy) (z := czz) (C := A0) (F := F0) (τ := τ0) (by omega) hG hD hA hp
    rw [hsf] at st
    have hGo2 : Gob b0 (hset h (b0 + 390) (b0 + 1) (nI (d (11 + 19 * p + 1))) (nI (2 ^ d (11 + 19 * p + 1))) C' τ' czz F0) ea := (rs_out (by omega)).trans hGo
    have hA2 := AucAt_hs (x := nI (d (11 + 19 * p + 1))) (y := nI (2 ^ d (11 + 19 * p + 1))) (z := czz) (C := C') (F := F0) (τ := τ') hA
    have hG2 := GrpAt_hs (x := nI (d (11 + 19 * p + 1))) (y := nI (2 ^ d (11 + 19 * p + 1))) (z := czz) (C := C') (F := F0) (τ := τ') hG
    have hGc : ∀ c, c < d (11 + 19 * p + 1) → cardG d p c < fctN (d 0) := fun c hc => (isN_idx g0 (pc c hc).1).1
    have hG12 : ∀ c, c < d (11 + 19 * p + 1) → cardG d p c < 120 := fun c hc => by have := hGc c hc; omega
    have kw := w_winning (N := N) (by omega) hG2 hD hA2
    have ct := x_fewest (N := N) (h := h) (b0 := b0) (C := C') (τ := τ') (z := czz) (F := F0) (w := invN (prodD d)) (by omega) p8 (by omega)
    refine P_hand (v := eI (fewR (fun m => AT τ' m (invN (prodD d))) (2 ^ d (11 + 19 * p + 1) - 1) 1 none)) g0 hW (x := nI (d (11 + 19 * p + 1))) (y := nI (2 ^ d (11 + 19 * p + 1))) (A := C') (τ := τ') (cz := czz) (F := F0) ?_ (fun h2 S B1 E H J L U Z W hL => ?_)
    · simp only [f_X8_fewest, w_g4 hGo, w_o8 hGo, k1, w_g2 hGo, kT, o3, st, w_g4 hGo2, w_g2 hGo2, w_o0 hA2, kw, hs_o3, ct, zth, Option.bind_some]
    · have n1 := m_noPlayer (N := N) (h := h2) (m := b0 + 395) (B := B1) (E := E) (H := H) (J := J) (L := L) (U := U) (Z := Z) (W := W) (S := upd S 0 (nI 0)) (x := nI p) (by omega) (upS_eq _ _ _) ⟨p, hp, rfl⟩
      have n2 : f_X9_productNow N (b0 + 395) (mset h2 (b0 + 395) (upd S 0 (nI 0)) B1 (dI d) E H J L U Z W) = some (nI (numN (d 0) (prodD d)), mset h2 (b0 + 395) (upd S 0 (nI 0)) B1 (dI d) E H J L U Z W) := m_productNow (by omega) g0 g5 hb2
      obtain ⟨L', U', Z', l1, l2, l3⟩ := m_layFrom (N := N) (h := h2) (m := b0 + 395) (B := B1) (E := E) (H := H) (J := J) (L := L) (U := U) (Z := Z) (W := W) (S := upd S 0 (nI 0)) (p := p) (but := 9) (a := prodD d) (butv := -nI 1) hNN hD hp (by rw [upS_ne (by omega), upS_ne (by omega)]; exact hL) hP (fun c hc => propext ⟨fun h9 => absurd h9 (fun h8 => nI_nn (show c < 2 ^ 31 by omega) (by rw [h8]; decide)), fun h9 => by omega⟩)
      have r1 := m_fewestLaid (N := N) (h := h2) (m := b0 + 395) (B := B1) (E := E) (H := H) (J := J) (L := L') (U := U') (Z := Z') (W := W) (S := upd (upd (upd S 0 (nI 0)) 20 (nI (d 0))) 19 (nI (fctN (d 0)))) (p := p) (least := 1) (by omega) g0 hp5 p8 (by rw [upS_ne (by omega), upS_eq]) l2 (by omega)
      have eq1 : fewR (fun m => AT τ' m (invN (prodD d))) (2 ^ d (11 + 19 * p + 1) - 1) 1 none = fewR (fun j => AZ Z' (d 0) j 0) (2 ^ d (11 + 19 * p + 1) - 1) 1 none := fewR_congr _ _ _ (fun j h1 h2 => bool_iff ((sI j _ (by omega) hPi).trans ((Rch_win p8 (by omega) hG12).symm.trans (l3 j 0 (by omega) h1f).symm)))
      rw [eq1]
      refine ⟨L', U', Z', W, ?_, l2⟩
      simp (disch := omega) only [f_X9_fewest, f_X9_fewestOf, n1, n2, l1, r1, nlit, nltT, nltF, nleT, nleF, neqT, neqF, nadd, nmul, nsub, ↓reduceIte, Option.bind_some, onO_ms, gI_ms, gA_ms, pF_ms, ldI_ms, stI_ms, dI_app, updI, upN_eq, upN_ne, Nat.add_zero, Nat.zero_add]
  · have k1 := w_nexisting (N := N) hGo hD hA hx
    refine P_thr (k := 2) (c := 1) hW ?_ rfl (by omega) (by omega) (fun h2 S B1 E H J L U Z W => m_fewest_p (by omega) hx)
    simp only [f_X8_fewest, w_g4 hGo, w_o8 hGo, k1, zth, Option.bind_some]
theorem PR_cheapest (hNN : 54400 < N) (hW : WC b0 h (d, K, t, (q, hd, hK, ht), ea, z, B)) (x : Int32) : PairT b0 (f_X8_cheapest N b0 x) (f_X9_cheapest N (b0 + 395) x) cRc h (d, K, t, (q, hd, hK, ht), ea, z, B) := by
  obtain ⟨⟨⟨hGo, hG, hS0⟩, hBr⟩, ⟨hA, hD, hC⟩, hH, hHG⟩ := id hW
  obtain ⟨⟨g0, g1, g2, g3, g4, g5, g7⟩, gb, gl, gp, gm⟩ := id hD
  have hGo : Gob b0 h ea := hGo
  have kT := w_T hD hA
  have kA := w_A hD hA
  have e2 : (nI 1 = nI 0) = False := eq_false (by decide)
  have hq8 : q ≤ 8 := by obtain ⟨o, -, h9, -⟩ := hH; exact h9
  have h1f := Nat.lt_trans Nat.zero_lt_one (fct_pos g0)
  have f8 := fct_le g0
  obtain ⟨xx, yy, czz, A0, F0, τ0, hsf⟩ := Han_self hBr.2.1
  have o3 : ∀ G : Option zH, onO 3 (b0 + 390) h G = G := fun G => by rw [← hsf]; exact hs_o3
  have o3i : ∀ G : Option (Int32 × zH), onO 3 (b0 + 390) h G = G := fun G => by rw [← hsf]; exact hs_o3
  have hP := prodD_in hD
  have hPi := inv_in g0 hP
  have hb2 : ∀ k, k < d 5 → isN (d 0) (d (118 + 3 * k + 1)) := fun k hk => (gb k hk).2.1
  rcases inP_cases x (d 1) with ⟨p, hp, rfl⟩ | ⟨hx, -⟩
  · skip
    obtain ⟨p8, pw', pc⟩ := gp p hp
    have hp5 : p < 5 := by omega
    have p2 := pow2_le p8
    have k1 := w_existing (N := N) hGo hD hA hp
    obtain ⟨C', τ', st, sR, sI⟩ := x_study (N := N) (p := p) (x := xx) (y := yy) (z := czz) (C := A0) (F := F0) (τ := τ0) (by omega) hG hD hA hp
    rw [hsf] at st
    have hGo2 : Gob b0 (hset h (b0 + 390) (b0 + 1) (nI (d (11 + 19 * p + 1))) (nI (2 ^ d (11 + 19 * p + 1))) C' τ' czz F0) ea := (rs_out (by omega)).trans hGo
    have hA2 := AucAt_hs (x := nI (d (11 + 19 * p + 1))) (y := nI (2 ^ d (11 + 19 * p + 1))) (z := czz) (C := C') (F := F0) (τ := τ') hA
    have hG2 := GrpAt_hs (x := nI (d (11 + 19 * p + 1))) (y := nI (2 ^ d (11 + 19 * p + 1))) (z := czz) (C := C') (F := F0) (τ := τ') hG
    have hGc : ∀ c, c < d (11 + 19 * p + 1) → cardG d p c < fctN (d 0) := fun c hc => (isN_idx g0 (pc c hc).1).1
    have hG12 : ∀ c, c < d (11 + 19 * p + 1) → cardG d p c < 120 := fun c hc => by have := hGc c hc; omega
    have kw := w_winning (N := N) (by omega) hG2 hD hA2
    have kB2 := w_bA hp hD hA2
    have ct := x_smallest (N := N) (h := h) (b0 := b0) (C := C') (τ := τ') (z := czz) (F := F0) (w := fun c => d (11 + 19 * p + 3 + 2 * c + 1)) (a := b0 + 46 + (5 + 5 * p)) (u := invN (prodD d)) (by omega) p8 (by omega) (fun c hc => (pc c hc).2) (fun G => w_o6 hA2 (isR_b hp5)) (fun c hc => w_at_b (N := N) hp hc hD hA2)
    refine P_hand (v := eI (minR (fun m => AT τ' m (invN (prodD d))) (fun m => sumR (fun c => d (11 + 19 * p + 3 + 2 * c + 1)) m (d (11 + 19 * p + 1)) 0 0) (2 ^ d (11 + 19 * p + 1) - 1) 1 none)) g0 hW (x := nI (d (11 + 19 * p + 1))) (y := nI (2 ^ d (11 + 19 * p + 1))) (A := C') (τ := τ') (cz := czz) (F := F0) ?_ (fun h2 S B1 E H J L U Z W hL => ?_)
    · simp only [f_X8_cheapest, w_g4 hGo, w_o8 hGo, k1, w_g2 hGo, kT, o3, st, w_g4 hGo2, w_g2 hGo2, w_o0 hA2, kw, hs_o3, kB2, ct, zth, Option.bind_some]
    · have n1 := m_noPlayer (N := N) (h := h2) (m := b0 + 395) (B := B1) (E := E) (H := H) (J := J) (L := L) (U := U) (Z := Z) (W := W) (S := upd S 0 (nI 0)) (x := nI p) (by omega) (upS_eq _ _ _) ⟨p, hp, rfl⟩
      have n2 : f_X9_productNow N (b0 + 395) (mset h2 (b0 + 395) (upd S 0 (nI 0)) B1 (dI d) E H J L U Z W) = some (nI (numN (d 0) (prodD d)), mset h2 (b0 + 395) (upd S 0 (nI 0)) B1 (dI d) E H J L U Z W) := m_productNow (by omega) g0 g5 hb2
      obtain ⟨L', U', Z', l1, l2, l3⟩ := m_layFrom (N := N) (h := h2) (m := b0 + 395) (B := B1) (E := E) (H := H) (J := J) (L := L) (U := U) (Z := Z) (W := W) (S := upd S 0 (nI 0)) (p := p) (but := 9) (a := prodD d) (butv := -nI 1) hNN hD hp (by rw [upS_ne (by omega), upS_ne (by omega)]; exact hL) hP (fun c hc => propext ⟨fun h9 => absurd h9 (fun h8 => nI_nn (show c < 2 ^ 31 by omega) (by rw [h8]; decide)), fun h9 => by omega⟩)
      have r1 := m_cheap_l (N := N) (h := h2) (m := b0 + 395) (B := B1) (E := E) (H := H) (J := J) (L := L') (U := U') (Z := Z') (W := W) (S := upd (upd (upd S 0 (nI 0)) 20 (nI (d 0))) 19 (nI (fctN (d 0)))) (p := p) (by omega) g0 hp5 p8 (by rw [upS_ne (by omega), upS_eq]) l2 (fun c hc => (pc c hc).2) (2 ^ d (11 + 19 * p + 1) - 1) 1 N none (by omega) (by omega) (fun v hv => by cases hv)
      have eq1 : minR (fun m => AT τ' m (invN (prodD d))) (fun m => sumR (fun c => d (11 + 19 * p + 3 + 2 * c + 1)) m (d (11 + 19 * p + 1)) 0 0) (2 ^ d (11 + 19 * p + 1) - 1) 1 none = minR (fun j => AZ Z' (d 0) j 0) (fun m => sumR (fun c => d (11 + 19 * p + 3 + 2 * c + 1)) m (d (11 + 19 * p + 1)) 0 0) (2 ^ d (11 + 19 * p + 1) - 1) 1 none := minR_congr _ _ _ (fun j h1 h2 => ⟨bool_iff ((sI j _ (by omega) hPi).trans ((Rch_win p8 (by omega) hG12).symm.trans (l3 j 0 (by omega) h1f).symm)), rfl⟩)
      rw [eq1]
      refine ⟨L', U', Z', W, ?_, l2⟩
      refine Eq.trans ?_ r1
      simp (disch := omega) only [f_X9_cheapest, n1, n2, l1, nlit, nltT, nltF, nleT, nleF, neqT, neqF, nadd, nmul, nsub, ↓reduceIte, Option.bind_some, onO_ms, gI_ms, gA_ms, pF_ms, ldI_ms, stI_ms, dI_app, updI, upN_eq, upN_ne, Nat.add_zero, Nat.zero_add]
      rfl
  · have k1 := w_nexisting (N := N) hGo hD hA hx
    refine P_thr (k := 2) (c := 1) hW ?_ rfl (by omega) (by omega) (fun h2 S B1 E H J L U Z W => m_cheapest_p (by omega) hx)
    simp only [f_X8_cheapest, w_o8 hGo, k1, zth, Option.bind_some]
end M9992

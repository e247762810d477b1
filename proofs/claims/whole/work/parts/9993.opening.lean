/-! ===== pairs: opening ===== -/
section M9993m
variable {h : zH} {m N : Nat} {S B E : Nat → Int32} {H : Nat → Nat → Int32} {J : Nat → Int64} {L U Z W : Nat → Int32} {d : Nat → Nat}
theorem eI_m {o : Option Nat} {f : Nat} (hf : 0 < f) (hf8 : f ≤ 8) (ho : ∀ v, o = some v → v ≤ 8) : (eI o = nI f - nI 1) = (o = some (f - 1)) := by
  rw [nsub (show 1 ≤ f by omega)]
  cases o with
  | none =>
    have : (eI none = nI (f - 1)) = False := eq_false fun h9 => nI_nn (show f - 1 < 2 ^ 31 by omega) (by rw [← h9]; decide)
    rw [this]
    exact propext ⟨fun h => h.elim, fun h => by cases h⟩
  | some v =>
    have := ho v rfl
    show (nI v = nI (f - 1)) = _
    rw [neq (by omega) (by omega)]
    exact propext ⟨fun h => by rw [h], fun h => Option.some.inj h⟩
theorem fewR_8 {b : Nat → Bool} {r m v : Nat} (h : fewR b r m none = some v) : v ≤ 8 := by
  rcases (fewR_spec (b := b) r m none).1 v h with h1 | ⟨j, -, -, -, h4⟩
  · cases h1
  · rw [← h4]; exact popN_le j
theorem m_open_l {p f P : Nat} {τ : Nat → Int64} (hNN : 54400 < N) (hD : GoodD d) (hp : p < d 1) (h20 : S 20 = nI (d 0)) (h19 : S 19 = nI (fctN (d 0))) (hP : P < fctN (d 0)) (hPr : ∀ (L U Z : Nat → Int32), f_X9_productNow N m (mset h m S B (dI d) E H J L U Z W) = some (nI (numN (d 0) P), mset h m S B (dI d) E H J L U Z W)) (hτ : ∀ m e, m < 2 ^ d (11 + 19 * p + 1) → e < fctN (d 0) → (AT τ m e = true ↔ Rch (d (11 + 19 * p + 1)) (cardG d p) 9 0 m e)) (hf : fewR (fun m => AT τ m (invN P)) (2 ^ d (11 + 19 * p + 1) - 1) 1 none = some f) : ∀ (r c fuel : Nat) (L U Z : Nat → Int32), c + r = d (11 + 19 * p + 1) → r < fuel → LaidT (d 0) L U → ∃ L' U' Z' : Nat → Int32, f_X9_opening_l23 N m (nI p) (nI f) fuel (nI c) (mset h m S B (dI d) E H J L U Z W) = some (eI (fstR (fun c => anyR (opnB τ f c (mulN (invN (cardG d p c)) (invN P))) (2 ^ d (11 + 19 * p + 1) - 1) 1) r c), mset h m S B (dI d) E H J L' U' Z' W) ∧ LaidT (d 0) L' U' := by
  obtain ⟨⟨g0, g1, g2, g3, g4, g5, g7⟩, gb, gl, gp, gm⟩ := id hD
  obtain ⟨p8, pw', pc⟩ := gp p hp
  have hp5 : p < 5 := by omega
  have p2 := pow2_le p8
  have hGc : ∀ c, c < d (11 + 19 * p + 1) → cardG d p c < fctN (d 0) := fun c hc => (isN_idx g0 (pc c hc).1).1
  have f8 := fewR_8 hf
  have fpos : 0 < f := by
    rcases (fewR_spec (b := fun m => AT τ m (invN P)) (2 ^ d (11 + 19 * p + 1) - 1) 1 none).1 f hf with h1 | ⟨j, j1, j2, -, j4⟩
    · cases h1
    · rw [← j4]; exact popN_pos' (by omega) (by omega)
  have e1 : (nI f = -nI 1) = False := eq_false fun h9 => nI_nn (show f < 2 ^ 31 by omega) (by rw [h9]; decide)
  have hS' : upd (upd S 20 (nI (d 0))) 19 (nI (fctN (d 0))) = S := by rw [upS_same h20, upS_same h19]
  intro r
  induction r with
  | zero =>
    intro c fuel L U Z hc hfu hL
    obtain ⟨fuel, rfl⟩ : ∃ m, fuel = m + 1 := ⟨fuel - 1, by omega⟩
    refine ⟨L, U, Z, ?_, hL⟩
    simp (disch := omega) only [f_X9_opening_l23, m_cardsOf, nlit, nltT, nltF, nleT, nleF, neqT, neqF, nadd, nmul, nsub, ↓reduceIte, Option.bind_some, onO_ms, gI_ms, gA_ms, pF_ms, ldI_ms, stI_ms, dI_app, updI, upN_eq, upN_ne, Nat.add_zero, Nat.zero_add]
    rfl
  | succ r ih =>
    intro c fuel L U Z hc hfu hL
    obtain ⟨fuel, rfl⟩ : ∃ m, fuel = m + 1 := ⟨fuel - 1, by omega⟩
    have hcc : c < d (11 + 19 * p + 1) := by omega
    have n1 := m_elementOf (N := N) (h := h) (m := m) (S := S) (B := B) (E := E) (H := H) (J := J) (L := L) (U := U) (Z := Z) (W := W) (d := d) hp5 (show c < 8 by omega)
    obtain ⟨i1', i2'⟩ := isN_idx g0 (pc c hcc).1
    have n0 : d (11 + 19 * p + 3 + 2 * c) = numN (d 0) (cardG d p c) := i2'
    have n2 := m_times (N := N) (h := mset h m S B (dI d) E H J L U Z W) (by omega) g0 hP (hGc c hcc)
    obtain ⟨L', U', Z', l1, l2, l3⟩ := m_layFrom (N := N) (h := h) (m := m) (B := B) (E := E) (H := H) (J := J) (L := L) (U := U) (Z := Z) (W := W) (S := S) (p := p) (but := c) (a := mulN P (cardG d p c)) (butv := nI c) hNN hD hp (Or.inr ⟨d 0, g0, h20, h19, hL⟩) (mul_in g0 hP (hGc c hcc)) (fun c' hc' => neq (by omega) (by omega))
    rw [hS'] at l1
    have r1 := m_fewestLaid (N := N) (h := h) (m := m) (B := B) (E := E) (H := H) (J := J) (L := L') (U := U') (Z := Z') (W := W) (S := S) (p := p) (least := 0) (by omega) g0 hp5 p8 h20 l2 (by omega)
    rw [Nat.sub_zero] at r1
    have oe := open_eq (n := d 0) (k := d (11 + 19 * p + 1)) (P := P) (c := c) (few := f) (G := cardG d p) (τ := τ) (Z := Z') g0 p8 hP hGc hcc hτ l3 hf
    have em := eI_m (o := fewR (fun j => AZ Z' (d 0) j 0) (2 ^ d (11 + 19 * p + 1)) 0 none) fpos f8 (fun v hv => fewR_8 hv)
    show ∃ L' U' Z' : Nat → Int32, _ = some (eI (if anyR (opnB τ f c (mulN (invN (cardG d p c)) (invN P))) (2 ^ d (11 + 19 * p + 1) - 1) 1 = true then some c else fstR (fun c => anyR (opnB τ f c (mulN (invN (cardG d p c)) (invN P))) (2 ^ d (11 + 19 * p + 1) - 1) 1) r (c + 1)), _) ∧ _
    by_cases hb : anyR (opnB τ f c (mulN (invN (cardG d p c)) (invN P))) (2 ^ d (11 + 19 * p + 1) - 1) 1 = true
    · refine ⟨L', U', Z', ?_, l2⟩
      rw [if_pos hb]
      have em' : (eI (fewR (fun j => AZ Z' (d 0) j 0) (2 ^ d (11 + 19 * p + 1)) 0 none) = nI f - nI 1) = True := em.trans (eq_true (oe.mp hb))
      simp (disch := omega) only [f_X9_opening_l23, m_cardsOf, e1, hPr, n1, n0, n2, l1, r1, em', nlit, nltT, nltF, nleT, nleF, neqT, neqF, nadd, nmul, ↓reduceIte, Option.bind_some, onO_ms, gI_ms, gA_ms, pF_ms, ldI_ms, stI_ms, dI_app, updI, upN_eq, upN_ne, Nat.add_zero, Nat.zero_add]
      rfl
    · obtain ⟨L2, U2, Z2, i1, i2⟩ := ih (c + 1) fuel L' U' Z' (by omega) (by omega) l2
      refine ⟨L2, U2, Z2, ?_, i2⟩
      rw [if_neg hb, ← i1]
      have em' : (eI (fewR (fun j => AZ Z' (d 0) j 0) (2 ^ d (11 + 19 * p + 1)) 0 none) = nI f - nI 1) = False := em.trans (eq_false fun h9 => hb (oe.mpr h9))
      simp (disch := omega) only [f_X9_opening_l23, m_cardsOf, e1, hPr, n1, n0, n2, l1, r1, em', nlit, nltT, nltF, nleT, nleF, neqT, neqF, nadd, nmul, ↓reduceIte, Option.bind_some, onO_ms, gI_ms, gA_ms, pF_ms, ldI_ms, stI_ms, dI_app, updI, upN_eq, upN_ne, Nat.add_zero, Nat.zero_add]
end M9993m
section M9993
variable {h h' h1 : zH} {b0 K N q z : Nat} {ea : Int32} {d : Nat → Nat} {t : Nat → Nat} {hd : Nat → Nat → Nat} {hK : Nat → Nat} {ht : Nat → Nat → Nat} {B : Nat → Int32}
theorem PR_opening (hNN : 54400 < N) (hW : WC b0 h (d, K, t, (q, hd, hK, ht), ea, z, B)) (x : Int32) : PairT b0 (f_X8_opening N b0 x) (f_X9_opening N (b0 + 395) x) cRc h (d, K, t, (q, hd, hK, ht), ea, z, B) := by
  obtain ⟨⟨⟨hGo, hG, hS0⟩, hBr⟩, ⟨hA, hD, hC⟩, hH, hHG⟩ := id hW
  obtain ⟨⟨g0, g1, g2, g3, g4, g5, g7⟩, gb, gl, gp, gm⟩ := id hD
  have hGo : Gob b0 h ea := hGo
  have kT := w_T hD hA
  have kA := w_A hD hA
  have e2 : (nI 1 = nI 0) = False := eq_false (by decide)
  have hq8 : q ≤ 8 := by obtain ⟨o, -, h9, -⟩ := hH; exact h9
  have h1f := Nat.lt_trans Nat.zero_lt_one (fct_pos g0)
  have f8 := fct_le g0
  obtain ⟨xx, yy, czz, A0, F0, τ0, hsf⟩ := Han_self hBr.2.1
  have o3 : ∀ G : Option zH, onO 3 (b0 + 390) h G = G := fun G => by rw [← hsf]; exact hs_o3
  have o3i : ∀ G : Option (Int32 × zH), onO 3 (b0 + 390) h G = G := fun G => by rw [← hsf]; exact hs_o3
  have hP := prodD_in hD
  have hPi := inv_in g0 hP
  have hb2 : ∀ k, k < d 5 → isN (d 0) (d (118 + 3 * k + 1)) := fun k hk => (gb k hk).2.1
  rcases inP_cases x (d 1) with ⟨p, hp, rfl⟩ | ⟨hx, -⟩
  · skip
    obtain ⟨p8, pw', pc⟩ := gp p hp
    have hp5 : p < 5 := by omega
    have p2 := pow2_le p8
    have k1 := w_existing (N := N) hGo hD hA hp
    obtain ⟨C', τ', st, sR, sI⟩ := x_study (N := N) (p := p) (x := xx) (y := yy) (z := czz) (C := A0) (F := F0) (τ := τ0) (by omega) hG hD hA hp
    rw [hsf] at st
    have hGo2 : Gob b0 (hset h (b0 + 390) (b0 + 1) (nI (d (11 + 19 * p + 1))) (nI (2 ^ d (11 + 19 * p + 1))) C' τ' czz F0) ea := (rs_out (by omega)).trans hGo
    have hA2 := AucAt_hs (x := nI (d (11 + 19 * p + 1))) (y := nI (2 ^ d (11 + 19 * p + 1))) (z := czz) (C := C') (F := F0) (τ := τ') hA
    have hG2 := GrpAt_hs (x := nI (d (11 + 19 * p + 1))) (y := nI (2 ^ d (11 + 19 * p + 1))) (z := czz) (C := C') (F := F0) (τ := τ') hG
    have hGc : ∀ c, c < d (11 + 19 * p + 1) → cardG d p c < fctN (d 0) := fun c hc => (isN_idx g0 (pc c hc).1).1
    have hG12 : ∀ c, c < d (11 + 19 * p + 1) → cardG d p c < 120 := fun c hc => by have := hGc c hc; omega
    have kw := w_winning (N := N) (by omega) hG2 hD hA2
    have kB2 := w_bA hp hD hA2
    have ct := x_fewest (N := N) (h := h) (b0 := b0) (C := C') (τ := τ') (z := czz) (F := F0) (w := invN (prodD d)) (by omega) p8 (by omega)
    have hn2 : ∀ (h2 : zH) (S B1 E : Nat → Int32) (H : Nat → Nat → Int32) (J : Nat → Int64) (L U Z W : Nat → Int32), f_X9_productNow N (b0 + 395) (mset h2 (b0 + 395) S B1 (dI d) E H J L U Z W) = some (nI (numN (d 0) (prodD d)), mset h2 (b0 + 395) S B1 (dI d) E H J L U Z W) := fun h2 S B1 E H J L U Z W => m_productNow (by omega) g0 g5 hb2
    have obtl : ∀ (h2 : zH) (S B1 E : Nat → Int32) (H : Nat → Nat → Int32) (J : Nat → Int64) (L U Z W : Nat → Int32), LaidOK (S 20) (S 19) L U → ∃ L' U' Z' : Nat → Int32, f_X9_fewestOf N (b0 + 395) (nI p) (mset h2 (b0 + 395) (upd S 0 (nI 0)) B1 (dI d) E H J L U Z W) = some (eI (fewR (fun m => AT τ' m (invN (prodD d))) (2 ^ d (11 + 19 * p + 1) - 1) 1 none), mset h2 (b0 + 395) (upd (upd (upd S 0 (nI 0)) 20 (nI (d 0))) 19 (nI (fctN (d 0)))) B1 (dI d) E H J L' U' Z' W) ∧ LaidT (d 0) L' U' := by
      intro h2 S B1 E H J L U Z W hL
      obtain ⟨L', U', Z', l1, l2, l3⟩ := m_layFrom (N := N) (h := h2) (m := b0 + 395) (B := B1) (E := E) (H := H) (J := J) (L := L) (U := U) (Z := Z) (W := W) (S := upd S 0 (nI 0)) (p := p) (but := 9) (a := prodD d) (butv := -nI 1) hNN hD hp (by rw [upS_ne (by omega), upS_ne (by omega)]; exact hL) hP (fun c hc => propext ⟨fun h9 => absurd h9 (fun h8 => nI_nn (show c < 2 ^ 31 by omega) (by rw [h8]; decide)), fun h9 => by omega⟩)
      have r1 := m_fewestLaid (N := N) (h := h2) (m := b0 + 395) (B := B1) (E := E) (H := H) (J := J) (L := L') (U := U') (Z := Z') (W := W) (S := upd (upd (upd S 0 (nI 0)) 20 (nI (d 0))) 19 (nI (fctN (d 0)))) (p := p) (least := 1) (by omega) g0 hp5 p8 (by rw [upS_ne (by omega), upS_eq]) l2 (by omega)
      have eq1 : fewR (fun m => AT τ' m (invN (prodD d))) (2 ^ d (11 + 19 * p + 1) - 1) 1 none = fewR (fun j => AZ Z' (d 0) j 0) (2 ^ d (11 + 19 * p + 1) - 1) 1 none := fewR_congr _ _ _ (fun j h1 h2 => bool_iff ((sI j _ (by omega) hPi).trans ((Rch_win p8 (by omega) hG12).symm.trans (l3 j 0 (by omega) h1f).symm)))
      rw [eq1]
      refine ⟨L', U', Z', ?_, l2⟩
      have n2 := hn2 h2 (upd S 0 (nI 0)) B1 E H J L U Z W
      simp (disch := omega) only [f_X9_fewestOf, n2, l1, r1, nlit, nltT, nltF, nleT, nleF, neqT, neqF, nadd, nmul, nsub, ↓reduceIte, Option.bind_some, onO_ms, gI_ms, gA_ms, pF_ms, ldI_ms, stI_ms, dI_app, updI, upN_eq, upN_ne, Nat.add_zero, Nat.zero_add]
    obtain ⟨N', hN'⟩ : ∃ N', N = N' + 1 := ⟨N - 1, by omega⟩
    have e11 : ((-nI 1 : Int32) = -nI 1) = True := eq_true rfl
    cases hfew : fewR (fun m => AT τ' m (invN (prodD d))) (2 ^ d (11 + 19 * p + 1) - 1) 1 none with
    | none =>
      rw [hfew] at ct
      replace ct : f_X3_fewestCardsFor N (b0 + 390) (nI (invN (prodD d))) (hset h (b0 + 390) (b0 + 1) (nI (d (11 + 19 * p + 1))) (nI (2 ^ d (11 + 19 * p + 1))) C' τ' czz F0) = some (-nI 1, hset h (b0 + 390) (b0 + 1) (nI (d (11 + 19 * p + 1))) (nI (2 ^ d (11 + 19 * p + 1))) C' τ' czz F0) := ct
      have l9 : ∀ f, f_X3_firstCardFor_l9 N (b0 + 390) (nI (invN (prodD d))) (b0 + 46 + (3 + 5 * p)) (-nI 1) (f + 1) (nI 0) (hset h (b0 + 390) (b0 + 1) (nI (d (11 + 19 * p + 1))) (nI (2 ^ d (11 + 19 * p + 1))) C' τ' czz F0) = some (-nI 1, hset h (b0 + 390) (b0 + 1) (nI (d (11 + 19 * p + 1))) (nI (2 ^ d (11 + 19 * p + 1))) C' τ' czz F0) := by
        intro f
        by_cases hk0 : d (11 + 19 * p + 1) = 0
        · simp (disch := omega) only [f_X3_firstCardFor_l9, hs_g, nlit, nleT, ↓reduceIte, Option.bind_some]
        · simp (disch := omega) only [f_X3_firstCardFor_l9, hs_g, nlit, nleF, e11, ↓reduceIte, Option.bind_some]
      refine P_hand (v := -nI 1) g0 hW (x := nI (d (11 + 19 * p + 1))) (y := nI (2 ^ d (11 + 19 * p + 1))) (A := C') (τ := τ') (cz := czz) (F := F0) ?_ (fun h2 S B1 E H J L U Z W hL => ?_)
      · have l9' := l9 N'
        rw [← hN'] at l9'
        simp only [f_X8_opening, f_X3_firstCardFor, w_g4 hGo, w_o8 hGo, k1, w_g2 hGo, kT, o3, st, w_g4 hGo2, w_g2 hGo2, w_o0 hA2, kw, hs_o3, kB2, ct, nlit, l9', zth, Option.bind_some]
      · have n1 := m_noPlayer (N := N) (h := h2) (m := b0 + 395) (B := B1) (E := E) (H := H) (J := J) (L := L) (U := U) (Z := Z) (W := W) (S := upd S 0 (nI 0)) (x := nI p) (by omega) (upS_eq _ _ _) ⟨p, hp, rfl⟩
        obtain ⟨L', U', Z', l1, l2⟩ := obtl h2 S B1 E H J L U Z W hL
        rw [hfew] at l1
        replace l1 : f_X9_fewestOf N (b0 + 395) (nI p) (mset h2 (b0 + 395) (upd S 0 (nI 0)) B1 (dI d) E H J L U Z W) = some (-nI 1, mset h2 (b0 + 395) (upd (upd (upd S 0 (nI 0)) 20 (nI (d 0))) 19 (nI (fctN (d 0)))) B1 (dI d) E H J L' U' Z' W) := l1
        refine ⟨L', U', Z', W, ?_, l2⟩
        have l23 : ∀ f, f_X9_opening_l23 N (b0 + 395) (nI p) (-nI 1) (f + 1) (nI 0) (mset h2 (b0 + 395) (upd (upd (upd S 0 (nI 0)) 20 (nI (d 0))) 19 (nI (fctN (d 0)))) B1 (dI d) E H J L' U' Z' W) = some (-nI 1, mset h2 (b0 + 395) (upd (upd (upd S 0 (nI 0)) 20 (nI (d 0))) 19 (nI (fctN (d 0)))) B1 (dI d) E H J L' U' Z' W) := by
          intro f
          by_cases hk0 : d (11 + 19 * p + 1) = 0
          · simp (disch := omega) only [f_X9_opening_l23, m_cardsOf, nlit, nltT, nltF, nleT, nleF, neqT, neqF, nadd, nmul, nsub, ↓reduceIte, Option.bind_some, onO_ms, gI_ms, gA_ms, pF_ms, ldI_ms, stI_ms, dI_app, updI, upN_eq, upN_ne, Nat.add_zero, Nat.zero_add]
          · simp (config := { maxSteps := 1000000 }) (disch := omega) only [f_X9_opening_l23, m_cardsOf, e11, nlit, nltT, nltF, nleT, nleF, neqT, neqF, nadd, nmul, ↓reduceIte, Option.bind_some, onO_ms, gI_ms, gA_ms, pF_ms, ldI_ms, stI_ms, dI_app, updI, upN_eq, upN_ne, Nat.add_zero, Nat.zero_add]
        have l23' := l23 N'
        rw [← hN'] at l23'
        simp (disch := omega) only [f_X9_opening, n1, l1, l23', nlit, nltT, nltF, nleT, nleF, neqT, neqF, nadd, nmul, nsub, ↓reduceIte, Option.bind_some, onO_ms, gI_ms, gA_ms, pF_ms, ldI_ms, stI_ms, dI_app, updI, upN_eq, upN_ne, Nat.add_zero, Nat.zero_add]
    | some f =>
      rw [hfew] at ct
      replace ct : f_X3_fewestCardsFor N (b0 + 390) (nI (invN (prodD d))) (hset h (b0 + 390) (b0 + 1) (nI (d (11 + 19 * p + 1))) (nI (2 ^ d (11 + 19 * p + 1))) C' τ' czz F0) = some (nI f, hset h (b0 + 390) (b0 + 1) (nI (d (11 + 19 * p + 1))) (nI (2 ^ d (11 + 19 * p + 1))) C' τ' czz F0) := ct
      have fs := x_first_l (N := N) (h := h) (b0 := b0) (k := d (11 + 19 * p + 1)) (C := C') (τ := τ') (z := czz) (F := F0) (few := f) (a := b0 + 46 + (3 + 5 * p)) (u := invN (prodD d)) (G := cardG d p) (by omega) p8 (by omega) (fewR_8 hfew) hG hG12 (fun G => w_o6 hA2 (isR_e hp5)) (fun c hc => w_at_e (N := N) hp hc hD hA2) (d (11 + 19 * p + 1)) 0 N (by omega) (by omega)
      refine P_hand (v := eI (fstR (fun c => anyR (opnB τ' f c (mulN (invN (cardG d p c)) (invN (prodD d)))) (2 ^ d (11 + 19 * p + 1) - 1) 1) (d (11 + 19 * p + 1)) 0)) g0 hW (x := nI (d (11 + 19 * p + 1))) (y := nI (2 ^ d (11 + 19 * p + 1))) (A := C') (τ := τ') (cz := czz) (F := F0) ?_ (fun h2 S B1 E H J L U Z W hL => ?_)
      · simp only [f_X8_opening, f_X3_firstCardFor, w_g4 hGo, w_o8 hGo, k1, w_g2 hGo, kT, o3, st, w_g4 hGo2, w_g2 hGo2, w_o0 hA2, kw, hs_o3, kB2, ct, nlit, fs, zth, Option.bind_some]
      · have n1 := m_noPlayer (N := N) (h := h2) (m := b0 + 395) (B := B1) (E := E) (H := H) (J := J) (L := L) (U := U) (Z := Z) (W := W) (S := upd S 0 (nI 0)) (x := nI p) (by omega) (upS_eq _ _ _) ⟨p, hp, rfl⟩
        obtain ⟨L1, U1, Z1, l1, l2⟩ := obtl h2 S B1 E H J L U Z W hL
        rw [hfew] at l1
        replace l1 : f_X9_fewestOf N (b0 + 395) (nI p) (mset h2 (b0 + 395) (upd S 0 (nI 0)) B1 (dI d) E H J L U Z W) = some (nI f, mset h2 (b0 + 395) (upd (upd (upd S 0 (nI 0)) 20 (nI (d 0))) 19 (nI (fctN (d 0)))) B1 (dI d) E H J L1 U1 Z1 W) := l1
        obtain ⟨L2, U2, Z2, q1, q2⟩ := m_open_l (N := N) (h := h2) (m := b0 + 395) (B := B1) (E := E) (H := H) (J := J) (W := W) (S := upd (upd (upd S 0 (nI 0)) 20 (nI (d 0))) 19 (nI (fctN (d 0)))) (p := p) (f := f) (P := prodD d) (τ := τ') hNN hD hp (by rw [upS_ne (by omega), upS_eq]) (upS_eq _ _ _) hP (fun L U Z => hn2 h2 _ B1 E H J L U Z W) sI hfew (d (11 + 19 * p + 1)) 0 N L1 U1 Z1 (by omega) (by omega) l2
        refine ⟨L2, U2, Z2, W, ?_, q2⟩
        refine Eq.trans ?_ q1
        simp (disch := omega) only [f_X9_opening, n1, l1, nlit, nltT, nltF, nleT, nleF, neqT, neqF, nadd, nmul, nsub, ↓reduceIte, Option.bind_some, onO_ms, gI_ms, gA_ms, pF_ms, ldI_ms, stI_ms, dI_app, updI, upN_eq, upN_ne, Nat.add_zero, Nat.zero_add]
  · have k1 := w_nexisting (N := N) hGo hD hA hx
    refine P_thr (k := 2) (c := 1) hW ?_ rfl (by omega) (by omega) (fun h2 S B1 E H J L U Z W => m_opening_p (by omega) hx)
    simp only [f_X8_opening, w_o8 hGo, k1, zth, Option.bind_some]
end M9993

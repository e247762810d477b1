/-! ===== pairs: cancel, pass, give, discard, undo ===== -/
theorem canD_lo {d : Nat → Nat} {c b x k : Nat} (hk : k < 11) (hk5 : k ≠ 5 ∧ k ≠ 6) (h45 : d 4 < 5) (h8 : d (11 + 19 * d 4 + 1) ≤ 8) : canD d c b x k = d k := by
  have e1 : ∀ k, (∀ p, k ≠ 11 + 19 * p) → k ≠ 6 → backD (cpayD d (d 4) x (d (118 + 3 * b + 2))) (d (118 + 3 * b)) (d (118 + 3 * b + 2)) k = d k := by
    intro k h1 h2
    unfold backD cpayD
    rw [upN_ne (h1 _), upN_ne h2, upN_ne (h1 _)]
  unfold canD
  rw [dropN_out (by rw [unbD_lo (by omega) (by omega), e1 _ (by omega) (by omega)]; exact h8) (by omega), unbD_lo (by omega) (by omega), e1 k (by omega) (by omega)]
section M98
variable {h h' h1 : zH} {b0 K N q z : Nat} {ea : Int32} {d : Nat → Nat} {t : Nat → Nat} {hd : Nat → Nat → Nat} {hK : Nat → Nat} {ht : Nat → Nat → Nat} {B : Nat → Int32}
theorem PR_cancel (hNN : 1400 < N) (hW : WC b0 h (d, K, t, (q, hd, hK, ht), ea, z, B)) (x y : Int32) : PairT b0 (f_X8_cancel N b0 x y) (f_X9_cancel N (b0 + 395) x y) cPy h (d, K, t, (q, hd, hK, ht), ea, z, B) := by
  obtain ⟨⟨⟨hGo, hG, hS0⟩, hBr⟩, ⟨hA, hD, hC⟩, hH, hHG⟩ := id hW
  obtain ⟨⟨g0, g1, g2, g3, g4, g5, g7⟩, gb, gl, gp, gm⟩ := id hD
  have hGo : Gob b0 h ea := hGo
  have kT := w_T hD hA
  have kA := w_A hD hA
  have e2 : (nI 1 = nI 0) = False := eq_false (by decide)
  have hq8 : q ≤ 8 := by obtain ⟨o, -, h9, -⟩ := hH; exact h9
  cases ho : overN d with
  | true =>
    have k1 := w_noturn (N := N) hGo hD hA ho
    refine P_thr (k := 0) (c := 1) hW ?_ rfl (by omega) (by omega) (fun h2 S B1 E H J L U Z W => m_cancel_over (by omega) (by omega) (by omega) ho)
    simp only [f_X8_cancel, w_o8 hGo, k1, zth, Option.bind_some]
  | false =>
    obtain ⟨o1, o2⟩ := overN_false ho
    have h4 : d 4 < d 1 := by omega
    have h45 : d 4 < 5 := by omega
    obtain ⟨p8, pw, pc⟩ := gp _ h4
    have k1 := w_turn (N := N) hGo hD hA ho
    have kB := w_bA h4 hD hA
    rcases inP_cases x (d (11 + 19 * d 4 + 1)) with ⟨c, hc, rfl⟩ | ⟨hx, -⟩
    · have k2 := w_holds_e (N := N) h4 ⟨c, hc, rfl⟩ hD hA
      rcases inP_cases y (d 5) with ⟨b, hb5, rfl⟩ | ⟨hy, -⟩
      · have k3 := w_holds_31 (N := N) ⟨b, hb5, rfl⟩ hD hA
        obtain ⟨h1, r1, r2, r3, r4, r5, r6⟩ := x_remember (N := N) (b0 := b0) (by omega) hD hH hA
        have hG1 := GrpAt_sim hG (fun k hk => Or.inl (r3 (b0 + 1 + k) (by omega)))
        have hGo1 : Gob b0 h1 ea := (r3 b0 (by omega)).trans hGo
        have hA1 : AucAt b0 h1 (b0 + 46) d K t := AucAt_sim hA (Nat.le_of_eq r5.symm) (fun x _ _ => Or.inl (r3 x (by omega))) (fun rl k hr hk => Or.inl (RAd_rem r3 r4 hr hk))
        have o4 : ∀ F : Option zH, onO 4 (b0 + 84) h F = F := fun F => by obtain ⟨o, -, -, h9, -⟩ := hH; exact onO_of' h9
        obtain ⟨h', c1, c2, c3⟩ := A_cancel (N := N) (b0 := b0) (c := c) (by omega) hG1 hD hC hA1 ho hc hb5
        have hx9 : priT d K t (d 4) c ≤ 9999 := priN_le _
        by_cases hb : canB d c b (priT d K t (d 4) c)
        · obtain ⟨c4, c5⟩ := c1 hb
          refine P_chg (h1 := h1) (h' := h') (d' := d) (v := -nI 1) hW r2 r3 r4 r5 r6 ?_ c5 c3 hD hC (fun h2 S B1 E H J L U Z W => fun hS => ?_)
          · simp (disch := omega) only [f_X8_cancel, nlit, neqT, neqF, w_o8 hGo, k1, kB, w_o6 hA (isR_e h45), k2, e2, w_g2 hGo, w_g3 hGo, w_g2 hGo1, o4, r1, w_o0 hA1, kA, w_o6 hA isR_31, k3, c4, zth, Option.bind_some, ↓reduceIte]
          · obtain ⟨J', hJ⟩ := m_priceOf (N := N) (h := h2) (m := b0 + 395) (B := B1) (d := d) (E := E) (J := J) (L := L) (U := U) (Z := Z) (W := W) (p := d 4) (c := c) (by omega) g0 h45 (by omega) (pc c hc).2 (pc c hc).1 hC
            obtain ⟨H', m1, m2⟩ := m_cancel_ref (N := N) hNN hD hq8 hS ho hc hb5 (by omega) hJ hb
            exact ⟨J', H', m1, m2⟩
        · obtain ⟨c4, c5⟩ := c2 hb
          have hb2 : ¬ (mulN (cardE d (d 4) c) (bidE d b) ≠ 0 ∨ priT d K t (d 4) c < d (118 + 3 * b + 2) ∨ d (11 + 19 * d 4) < priT d K t (d 4) c) := hb
          have q1 : mulN (cardE d (d 4) c) (bidE d b) = 0 := Decidable.byContradiction fun hn => hb2 (Or.inl hn)
          have q2 : d (118 + 3 * b + 2) ≤ priT d K t (d 4) c := Nat.le_of_not_lt fun hn => hb2 (Or.inr (Or.inl hn))
          have q3 : priT d K t (d 4) c ≤ d (11 + 19 * d 4) := Nat.le_of_not_lt fun hn => hb2 (Or.inr (Or.inr hn))
          have hGp := GoodD_can hD h4 hb5 hc q3 q2
          have hGf : GoodD (finN (canD d c b (priT d K t (d 4) c)) (d 4)) := GoodD_fin hGp (by rw [canD_lo (by omega) (by omega) h45 p8]; rw [canD_lo (by omega) (by omega) h45 p8]; exact o2) (by rw [canD_lo (by omega) (by omega) h45 p8]; exact h4)
          refine P_chg (h1 := h1) (h' := h') (d' := finN (canD d c b (priT d K t (d 4) c)) (d 4)) (v := b2 (winN (canD d c b (priT d K t (d 4) c)))) hW r2 r3 r4 r5 r6 ?_ c5 c3 hGf (CodeR_sm (smC_tr (smC_can hD h4 hb5) (smC_fin h45)) hC) (fun h2 S B1 E H J L U Z W => fun hS => ?_)
          · simp (disch := omega) only [f_X8_cancel, nlit, neqT, neqF, w_o8 hGo, k1, kB, w_o6 hA (isR_e h45), k2, e2, w_g2 hGo, w_g3 hGo, w_g2 hGo1, o4, r1, w_o0 hA1, kA, w_o6 hA isR_31, k3, c4, zth, Option.bind_some, ↓reduceIte]
          · obtain ⟨J', hJ⟩ := m_priceOf (N := N) (h := h2) (m := b0 + 395) (B := B1) (d := d) (E := E) (J := J) (L := L) (U := U) (Z := Z) (W := W) (p := d 4) (c := c) (by omega) g0 h45 (by omega) (pc c hc).2 (pc c hc).1 hC
            obtain ⟨H', m1, m2⟩ := m_cancel_ok (N := N) hNN hD hGp hq8 hS ho hc hb5 (by omega) hJ q1 q2 q3
            exact ⟨J', H', m1, m2⟩
      · have k3 := w_nholds_31 (N := N) hy hD hA
        refine P_thr (k := 3) (c := 2) hW ?_ rfl (by omega) (by omega) (fun h2 S B1 E H J L U Z W => m_cancel_nb (by omega) (by omega) (by omega) ho h45 (by omega) ⟨c, hc, rfl⟩ g5 hy)
        simp (disch := omega) only [f_X8_cancel, nlit, w_o8 hGo, k1, kB, w_o6 hA (isR_e h45), k2, e2, w_g2 hGo, kA, w_o6 hA isR_31, k3, zth, Option.bind_some, ↓reduceIte]
    · have k2 := w_nholds_e (N := N) h4 hx hD hA
      refine P_thr (k := 3) (c := 2) hW ?_ rfl (by omega) (by omega) (fun h2 S B1 E H J L U Z W => m_cancel_nc (by omega) (by omega) (by omega) ho h45 (by omega) hx)
      simp (disch := omega) only [f_X8_cancel, nlit, w_o8 hGo, k1, kB, w_o6 hA (isR_e h45), k2, zth, Option.bind_some, ↓reduceIte]
theorem PR_pass (hNN : 1400 < N) (hW : WC b0 h (d, K, t, (q, hd, hK, ht), ea, z, B)) : PairT b0 (f_X8_pass N b0) (f_X9_pass N (b0 + 395)) cPs h (d, K, t, (q, hd, hK, ht), ea, z, B) := by
  obtain ⟨⟨⟨hGo, hG, hS0⟩, hBr⟩, ⟨hA, hD, hC⟩, hH, hHG⟩ := id hW
  obtain ⟨⟨g0, g1, g2, g3, g4, g5, g7⟩, gb, gl, gp, gm⟩ := id hD
  have hGo : Gob b0 h ea := hGo
  have kT := w_T hD hA
  have kA := w_A hD hA
  have e2 : (nI 1 = nI 0) = False := eq_false (by decide)
  have hq8 : q ≤ 8 := by obtain ⟨o, -, h9, -⟩ := hH; exact h9
  have ko := w_over (N := N) hD hA
  cases ho : overN d with
  | true =>
    rw [ho] at ko
    refine P_thr (k := 0) (c := 1) hW ?_ rfl (by omega) (by omega) (fun h2 S B1 E H J L U Z W => m_pass_over (by omega) (by omega) (by omega) ho)
    simp only [f_X8_pass, nlit, b2_t', e2, w_g2 hGo, w_o0 hA, ko, Option.bind_some, ↓reduceIte]
  | false =>
    rw [ho] at ko
    obtain ⟨o1, o2⟩ := overN_false ho
    obtain ⟨h1, r1, r2, r3, r4, r5, r6⟩ := x_remember (N := N) (b0 := b0) (by omega) hD hH hA
    have hG1 := GrpAt_sim hG (fun k hk => Or.inl (r3 (b0 + 1 + k) (by omega)))
    have hGo1 : Gob b0 h1 ea := (r3 b0 (by omega)).trans hGo
    have hA1 : AucAt b0 h1 (b0 + 46) d K t := AucAt_sim hA (Nat.le_of_eq r5.symm) (fun x _ _ => Or.inl (r3 x (by omega))) (fun rl k hr hk => Or.inl (RAd_rem r3 r4 hr hk))
    have o4 : ∀ F : Option zH, onO 4 (b0 + 84) h F = F := fun F => by obtain ⟨o, -, -, h9, -⟩ := hH; exact onO_of' h9
    obtain ⟨h', c1, c2, c3⟩ := A_pass (N := N) (b0 := b0) hD hA1 ho
    refine P_chg (h1 := h1) (h' := h') (d' := passN d) (v := b2 (decide (d 7 + 1 = d 1))) hW r2 r3 r4 r5 r6 ?_ c2 c3 (GoodD_pass hD ho) (CodeR_sm (smC_pass d) hC) (fun h2 S B1 E H J L U Z W => fun hS => ?_)
    · simp only [f_X8_pass, nlit, b2_f', w_g2 hGo, w_g3 hGo, w_g2 hGo1, w_o0 hA, w_o0 hA1, o4, r1, c1, ko, Option.bind_some, ↓reduceIte]
    · have hm6 : d 6 < 1000000 ∧ d 8 < 1000000 := by unfold monN at gm; omega
      obtain ⟨H', m1, m2⟩ := m_pass (N := N) (h := h2) (m := b0 + 395) (B := B1) (d := d) (E := E) (H := H) (J := J) (L := L) (U := U) (Z := Z) (W := W) hNN hq8 hS (by omega) (by omega) (by omega) (by omega) hm6.1 (by omega) hm6.2 ho
      exact ⟨J, H', m1, m2⟩
theorem PR_give (hNN : 1400 < N) (hW : WC b0 h (d, K, t, (q, hd, hK, ht), ea, z, B)) (x y w : Int32) : PairT b0 (f_X8_give N b0 x y w) (f_X9_give N (b0 + 395) x y w) cGv h (d, K, t, (q, hd, hK, ht), ea, z, B) := by
  obtain ⟨⟨⟨hGo, hG, hS0⟩, hBr⟩, ⟨hA, hD, hC⟩, hH, hHG⟩ := id hW
  obtain ⟨⟨g0, g1, g2, g3, g4, g5, g7⟩, gb, gl, gp, gm⟩ := id hD
  have hGo : Gob b0 h ea := hGo
  have kT := w_T hD hA
  have kA := w_A hD hA
  have e2 : (nI 1 = nI 0) = False := eq_false (by decide)
  have hq8 : q ≤ 8 := by obtain ⟨o, -, h9, -⟩ := hH; exact h9
  have ky := w_elementOf (N := N) (x := y) (by omega) hGo hG hD hA
  have f8 := fct_le g0
  rcases inP_cases x (d 1) with ⟨p, hp, rfl⟩ | ⟨hx, -⟩
  · have k1 := w_existing (N := N) hGo hD hA hp
    obtain ⟨p8, pw, pc⟩ := gp p hp
    have hp5 : p < 5 := by omega
    have kB := w_bA hp hD hA
    cases hy : eltI (d 0) y with
    | none =>
      rw [hy] at ky
      refine P_thr (k := 1) (c := 2) hW ?_ rfl (by omega) (by omega) (fun h2 S B1 E H J L U Z W => m_give_e (by omega) (by omega) g0 ⟨p, hp, rfl⟩ (by rw [hy]; rfl))
      simp only [f_X8_give, w_o8 hGo, k1, ky, zth, Option.bind_some]
    | some e =>
      rw [hy] at ky
      replace ky : f_X8_elementOf N b0 y h = some (.inl (nI e), h) := ky
      by_cases hz : w < nI 1 ∨ nI 999 < w
      · refine P_thr (k := 1) (c := 2) hW ?_ rfl (by omega) (by omega) (fun h2 S B1 E H J L U Z W => m_give_b (by omega) g1 g0 hp (by rw [hy]; rfl) hz)
        by_cases z1 : w < nI 1
        · simp only [f_X8_give, nlit, w_o8 hGo, k1, ky, z1, zth, Option.bind_some, ↓reduceIte]
        · have z2 : ¬ w ≤ nI 999 := fun h9 => by
            rcases hz with h8 | h8
            · exact z1 h8
            · exact absurd h8 (Int32.not_lt.mpr h9)
          simp only [f_X8_give, nlit, w_o8 hGo, k1, ky, z1, z2, zth, Option.bind_some, ↓reduceIte]
      · have z1 : ¬ w < nI 1 := fun h9 => hz (Or.inl h9)
        have z2 : w ≤ nI 999 := Int32.not_lt.mp fun h9 => hz (Or.inr h9)
        obtain ⟨b, hb, rfl⟩ := nIof (x := w) (Int32.le_trans (by decide) (Int32.not_lt.mp z1))
        have b1 : 1 ≤ b := by rw [nlt hb (by omega)] at z1; omega
        have b9 : b ≤ 999 := by rw [nle hb (by omega)] at z2; exact z2
        by_cases h8 : d (11 + 19 * p + 1) = 8
        · have k3 := w_full_y (N := N) hp h8 hD hA
          refine P_thr (k := 0) (c := 3) hW ?_ rfl (by omega) (by omega) (fun h2 S B1 E H J L U Z W => m_give_full (by omega) g1 g0 hp (by rw [hy]; rfl) b1 b9 h8)
          simp (disch := omega) only [f_X8_give, nlit, nltF, nleT, w_o8 hGo, k1, ky, kB, w_o6 hA (isR_e hp5), k3, e2, zth, Option.bind_some, ↓reduceIte]
        · have k3 := w_full_n (N := N) hp (by omega) hD hA
          obtain ⟨y1, y2⟩ := eltI_some g0 hy
          subst y2
          obtain ⟨h1, r1, r2, r3, r4, r5, r6⟩ := x_remember (N := N) (b0 := b0) (by omega) hD hH hA
          have hG1 := GrpAt_sim hG (fun k hk => Or.inl (r3 (b0 + 1 + k) (by omega)))
          have hGo1 : Gob b0 h1 ea := (r3 b0 (by omega)).trans hGo
          have hA1 : AucAt b0 h1 (b0 + 46) d K t := AucAt_sim hA (Nat.le_of_eq r5.symm) (fun x _ _ => Or.inl (r3 x (by omega))) (fun rl k hr hk => Or.inl (RAd_rem r3 r4 hr hk))
          have o4 : ∀ F : Option zH, onO 4 (b0 + 84) h F = F := fun F => by obtain ⟨o, -, -, h9, -⟩ := hH; exact onO_of' h9
          obtain ⟨h', c1, c2, c3⟩ := A_give (N := N) (b0 := b0) (p := p) (e := numN (d 0) e) (b := b) hD hA1 hp (by omega)
          have ei : idxN (d 0) (numN (d 0) e) = e := by unfold idxN; rw [elt_num g0 y1]; rfl
          rw [ei] at c1
          have hGg : GoodD (giveN d p (numN (d 0) e) b) := GoodD_give hD hp (by omega) ⟨e, y1, rfl⟩ b9
          have en : giveN d p (numN (d 0) e) b (11 + 19 * p + 1) = d (11 + 19 * p + 1) + 1 := giveN_n _ _ _ _
          have e1 : giveN d p (numN (d 0) e) b 1 = d 1 := giveN_out (by omega) (by omega) (by omega)
          refine P_chg (h1 := h1) (h' := h') (d' := giveN d p (numN (d 0) e) b) (v := nI (d (11 + 19 * p + 1) + 1)) hW r2 r3 r4 r5 r6 ?_ c2 c3 hGg (CodeR_sm (smC_give hp5 (by omega)) hC) (fun h2 S B1 E H J L U Z W => fun hS => ?_)
          · have kB2 := w_bA (p := p) (by rw [e1]; exact hp) hGg c2
            have ks2 := w_size_e (N := N) (p := p) (by rw [e1]; exact hp) hGg c2
            rw [en] at ks2
            simp (disch := omega) only [f_X8_give, nlit, nltF, nleT, w_o8 hGo, k1, ky, kB, w_o6 hA (isR_e hp5), k3, w_g2 hGo, w_g3 hGo, o4, r1, w_o1 hA1 hp5, c1, kB2, w_o6 c2 (isR_e hp5), ks2, zth, Option.bind_some, ↓reduceIte]
          · obtain ⟨H', m1, m2⟩ := m_give_ok (N := N) (h := h2) (m := b0 + 395) (B := B1) (d := d) (E := E) (H := H) (J := J) (L := L) (U := U) (Z := Z) (W := W) hNN hq8 hS g1 g0 hp y1 b1 b9 (by omega)
            exact ⟨J, H', m1, m2⟩
  · have k1 := w_nexisting (N := N) hGo hD hA hx
    refine P_thr (k := 2) (c := 1) hW ?_ rfl (by omega) (by omega) (fun h2 S B1 E H J L U Z W => m_give_p (by omega) hx)
    simp only [f_X8_give, w_o8 hGo, k1, zth, Option.bind_some]
theorem PR_discard (hNN : 1400 < N) (hW : WC b0 h (d, K, t, (q, hd, hK, ht), ea, z, B)) (x y : Int32) : PairT b0 (f_X8_discard N b0 x y) (f_X9_discard N (b0 + 395) x y) cDs h (d, K, t, (q, hd, hK, ht), ea, z, B) := by
  obtain ⟨⟨⟨hGo, hG, hS0⟩, hBr⟩, ⟨hA, hD, hC⟩, hH, hHG⟩ := id hW
  obtain ⟨⟨g0, g1, g2, g3, g4, g5, g7⟩, gb, gl, gp, gm⟩ := id hD
  have hGo : Gob b0 h ea := hGo
  have kT := w_T hD hA
  have kA := w_A hD hA
  have e2 : (nI 1 = nI 0) = False := eq_false (by decide)
  have hq8 : q ≤ 8 := by obtain ⟨o, -, h9, -⟩ := hH; exact h9
  rcases inP_cases x (d 1) with ⟨p, hp, rfl⟩ | ⟨hx, -⟩
  · have k1 := w_existing (N := N) hGo hD hA hp
    obtain ⟨p8, pw, pc⟩ := gp p hp
    have hp5 : p < 5 := by omega
    have kB := w_bA hp hD hA
    rcases inP_cases y (d (11 + 19 * p + 1)) with ⟨c, hc, rfl⟩ | ⟨hy, -⟩
    · have k2 := w_holds_e (N := N) hp ⟨c, hc, rfl⟩ hD hA
      obtain ⟨h1, r1, r2, r3, r4, r5, r6⟩ := x_remember (N := N) (b0 := b0) (by omega) hD hH hA
      have hG1 := GrpAt_sim hG (fun k hk => Or.inl (r3 (b0 + 1 + k) (by omega)))
      have hGo1 : Gob b0 h1 ea := (r3 b0 (by omega)).trans hGo
      have hA1 : AucAt b0 h1 (b0 + 46) d K t := AucAt_sim hA (Nat.le_of_eq r5.symm) (fun x _ _ => Or.inl (r3 x (by omega))) (fun rl k hr hk => Or.inl (RAd_rem r3 r4 hr hk))
      have o4 : ∀ F : Option zH, onO 4 (b0 + 84) h F = F := fun F => by obtain ⟨o, -, -, h9, -⟩ := hH; exact onO_of' h9
      obtain ⟨h', c1, c2, c3⟩ := A_drop (N := N) (b0 := b0) (p := p) (c := c) (by omega) hD hA1 hp hc
      have hGg := GoodD_drop hD hp hc
      have hGo2 : Gob b0 h' ea := simc_cell (c3.1 b0 (by omega)) hGo1 (fun σ e => by cases e)
      have hG2 := GrpAt_sim hG1 (fun k hk => c3.1 (b0 + 1 + k) (by omega))
      have n0 : dropN d p c 0 = d 0 := dropN_out p8 (by omega)
      obtain ⟨i1, i2⟩ := isN_idx g0 (pc c hc).1
      have kn := w_numberOf (N := N) (e := idxN (d 0) (d (11 + 19 * p + 3 + 2 * c))) (by omega) hGo2 hG2 hGg c2 (by rw [n0]; exact i1)
      rw [n0, ← i2] at kn
      have a1 := w_at_e (N := N) hp hc hD hA1
      have kB1 := w_bA hp hD hA1
      refine P_chg (h1 := h1) (h' := h') (d' := dropN d p c) (v := nI (d (11 + 19 * p + 3 + 2 * c))) hW r2 r3 r4 r5 r6 ?_ c2 c3 hGg (CodeR_sm (smC_drop hp5 p8) hC) (fun h2 S B1 E H J L U Z W => fun hS => ?_)
      · simp (disch := omega) only [f_X8_discard, nlit, w_o8 hGo, w_o8 hGo2, k1, kB, kB1, w_o6 hA (isR_e hp5), w_o6 hA1 (isR_e hp5), k2, e2, a1, w_g2 hGo, w_g3 hGo, o4, r1, w_o1 hA1 hp5, c1, kn, zth, Option.bind_some, ↓reduceIte]
      · obtain ⟨H', m1, m2⟩ := m_discard_ok (N := N) (h := h2) (m := b0 + 395) (B := B1) (d := d) (E := E) (H := H) (J := J) (L := L) (U := U) (Z := Z) (W := W) hNN hq8 hS g1 hp p8 hc
        exact ⟨J, H', m1, m2⟩
    · have k2 := w_nholds_e (N := N) hp hy hD hA
      refine P_thr (k := 3) (c := 2) hW ?_ rfl (by omega) (by omega) (fun h2 S B1 E H J L U Z W => m_discard_c g1 hp p8 hy)
      simp (disch := omega) only [f_X8_discard, nlit, w_o8 hGo, k1, kB, w_o6 hA (isR_e hp5), k2, zth, Option.bind_some, ↓reduceIte]
  · have k1 := w_nexisting (N := N) hGo hD hA hx
    refine P_thr (k := 2) (c := 1) hW ?_ rfl (by omega) (by omega) (fun h2 S B1 E H J L U Z W => m_discard_p (by omega) hx)
    simp only [f_X8_discard, w_o8 hGo, k1, zth, Option.bind_some]
end M98

/-! ===== pairs: play, cancel, pass, give, discard, undo ===== -/
section M97m
variable {h : zH} {m N : Nat} {S B E : Nat → Int32} {H : Nat → Nat → Int32} {J : Nat → Int64} {L U Z W : Nat → Int32} {d : Nat → Nat}
theorem m_play_over {x : Int32} (h1 : d 1 < 100) (h2 : d 2 < 100) (h3 : d 3 < 100) (ho : overN d = true) : f_X9_play N m x (mset h m S B (dI d) E H J L U Z W) = some (nI 0, mset h m (upd S 0 (nI 1)) B (dI d) E H J L U Z W) := by
  simp (disch := omega) only [f_X9_play, f_X9_fails, f_X9_fails_j16, m_isOver, ho, b2_t', upS_eq, upS_ne, upS_upS, nlit, nltT, nltF, nleT, nleF, neqT, neqF, nadd, nmul, nsub, ↓reduceIte, Option.bind_some, onO_ms, gI_ms, gA_ms, pF_ms, ldI_ms, stI_ms, dI_app, updI, upN_eq, upN_ne, Nat.add_zero, Nat.zero_add]
theorem m_cancel_over {x y : Int32} (h1 : d 1 < 100) (h2 : d 2 < 100) (h3 : d 3 < 100) (ho : overN d = true) : f_X9_cancel N m x y (mset h m S B (dI d) E H J L U Z W) = some (nI 0, mset h m (upd S 0 (nI 1)) B (dI d) E H J L U Z W) := by
  simp (disch := omega) only [f_X9_cancel, f_X9_fails, f_X9_fails_j16, m_isOver, ho, b2_t', upS_eq, upS_ne, upS_upS, nlit, nltT, nltF, nleT, nleF, neqT, neqF, nadd, nmul, nsub, ↓reduceIte, Option.bind_some, onO_ms, gI_ms, gA_ms, pF_ms, ldI_ms, stI_ms, dI_app, updI, upN_eq, upN_ne, Nat.add_zero, Nat.zero_add]
theorem m_play_nc {x : Int32} (h1 : d 1 < 100) (h2 : d 2 < 100) (h3 : d 3 < 100) (ho : overN d = false) (h4 : d 4 < 5) (hn : d (11 + 19 * d 4 + 1) < 100) (hx : ¬ inP x (d (11 + 19 * d 4 + 1))) : f_X9_play N m x (mset h m S B (dI d) E H J L U Z W) = some (nI 0, mset h m (upd S 0 (nI 2)) B (dI d) E H J L U Z W) := by
  have n1 := m_noCard' (N := N) (h := h) (m := m) (B := B) (E := E) (L := L) (U := U) (Z := Z) (W := W) (S := upd S 0 (nI 0)) (H := H) (J := J) h4 hn (upS_eq _ _ _) hx
  simp (disch := omega) only [f_X9_play, f_X9_fails, f_X9_fails_j16, m_isOver, ho, n1, b2_f', upS_eq, upS_ne, upS_upS, nlit, nltT, nltF, nleT, nleF, neqT, neqF, nadd, nmul, nsub, ↓reduceIte, Option.bind_some, onO_ms, gI_ms, gA_ms, pF_ms, ldI_ms, stI_ms, dI_app, updI, upN_eq, upN_ne, Nat.add_zero, Nat.zero_add]
theorem m_cancel_nc {x y : Int32} (h1 : d 1 < 100) (h2 : d 2 < 100) (h3 : d 3 < 100) (ho : overN d = false) (h4 : d 4 < 5) (hn : d (11 + 19 * d 4 + 1) < 100) (hx : ¬ inP x (d (11 + 19 * d 4 + 1))) : f_X9_cancel N m x y (mset h m S B (dI d) E H J L U Z W) = some (nI 0, mset h m (upd S 0 (nI 2)) B (dI d) E H J L U Z W) := by
  have n1 := m_noCard' (N := N) (h := h) (m := m) (B := B) (E := E) (L := L) (U := U) (Z := Z) (W := W) (S := upd S 0 (nI 0)) (H := H) (J := J) h4 hn (upS_eq _ _ _) hx
  simp (disch := omega) only [f_X9_cancel, f_X9_fails, f_X9_fails_j16, m_isOver, ho, n1, b2_f', upS_eq, upS_ne, upS_upS, nlit, nltT, nltF, nleT, nleF, neqT, neqF, nadd, nmul, nsub, ↓reduceIte, Option.bind_some, onO_ms, gI_ms, gA_ms, pF_ms, ldI_ms, stI_ms, dI_app, updI, upN_eq, upN_ne, Nat.add_zero, Nat.zero_add]
theorem m_cancel_nb {x y : Int32} (h1 : d 1 < 100) (h2 : d 2 < 100) (h3 : d 3 < 100) (ho : overN d = false) (h4 : d 4 < 5) (hn : d (11 + 19 * d 4 + 1) < 100) (hx : inP x (d (11 + 19 * d 4 + 1))) (h5 : d 5 ≤ 20) (hy : ¬ inP y (d 5)) : f_X9_cancel N m x y (mset h m S B (dI d) E H J L U Z W) = some (nI 0, mset h m (upd S 0 (nI 2)) B (dI d) E H J L U Z W) := by
  have n1 := m_noCard (N := N) (h := h) (m := m) (B := B) (E := E) (L := L) (U := U) (Z := Z) (W := W) (S := upd S 0 (nI 0)) (H := H) (J := J) h4 hn (upS_eq _ _ _) hx
  have n2 := m_in0' (N := N) (g := mset h m (upd S 0 (nI 0)) B (dI d) E H J L U Z W) (show d 5 < 2 ^ 31 by omega) hy
  simp (config := { maxSteps := 1000000 }) (disch := omega) only [f_X9_cancel, f_X9_cancel_j47, f_X9_fails, f_X9_fails_j16, m_isOver, ho, n1, n2, b2_f', upS_eq, upS_ne, upS_upS, nlit, nltT, nltF, nleT, nleF, neqT, neqF, nadd, nmul, ↓reduceIte, Option.bind_some, onO_ms, gI_ms, gA_ms, pF_ms, ldI_ms, stI_ms, dI_app, updI, upN_eq, upN_ne, Nat.add_zero, Nat.zero_add]
end M97m
theorem playD_lo {d : Nat → Nat} {c x k : Nat} (hk : k < 11) (hk5 : k ≠ 5 ∧ k ≠ 6) (h45 : d 4 < 5) (h8 : d (11 + 19 * d 4 + 1) ≤ 8) : playD d c x k = d k := by
  unfold playD
  rw [dropN_out (by rw [bidN_lo (by omega) (by omega), payD_n]; exact h8) (by omega), bidN_lo (by omega) (by omega)]
  unfold payD
  rw [upN_ne (by omega), upN_ne (by omega)]
section M97
variable {h h' h1 : zH} {b0 K N q z : Nat} {ea : Int32} {d : Nat → Nat} {t : Nat → Nat} {hd : Nat → Nat → Nat} {hK : Nat → Nat} {ht : Nat → Nat → Nat} {B : Nat → Int32}
theorem PR_play (hNN : 1400 < N) (hW : WC b0 h (d, K, t, (q, hd, hK, ht), ea, z, B)) (x : Int32) : PairT b0 (f_X8_play N b0 x) (f_X9_play N (b0 + 395) x) cPy h (d, K, t, (q, hd, hK, ht), ea, z, B) := by
  obtain ⟨⟨⟨hGo, hG, hS0⟩, hBr⟩, ⟨hA, hD, hC⟩, hH, hHG⟩ := id hW
  obtain ⟨⟨g0, g1, g2, g3, g4, g5, g7⟩, gb, gl, gp, gm⟩ := id hD
  have hGo : Gob b0 h ea := hGo
  have kT := w_T hD hA
  have kA := w_A hD hA
  have e2 : (nI 1 = nI 0) = False := eq_false (by decide)
  have hq8 : q ≤ 8 := by obtain ⟨o, -, h9, -⟩ := hH; exact h9
  cases ho : overN d with
  | true =>
    have k1 := w_noturn (N := N) hGo hD hA ho
    refine P_thr (k := 0) (c := 1) hW ?_ rfl (by omega) (by omega) (fun h2 S B1 E H J L U Z W => m_play_over (by omega) (by omega) (by omega) ho)
    simp only [f_X8_play, w_o8 hGo, k1, zth, Option.bind_some]
  | false =>
    obtain ⟨o1, o2⟩ := overN_false ho
    have h4 : d 4 < d 1 := by omega
    have h45 : d 4 < 5 := by omega
    obtain ⟨p8, pw, pc⟩ := gp _ h4
    have k1 := w_turn (N := N) hGo hD hA ho
    have kB := w_bA h4 hD hA
    rcases inP_cases x (d (11 + 19 * d 4 + 1)) with ⟨c, hc, rfl⟩ | ⟨hx, -⟩
    · have k2 := w_holds_e (N := N) h4 ⟨c, hc, rfl⟩ hD hA
      obtain ⟨h1, r1, r2, r3, r4, r5, r6⟩ := x_remember (N := N) (b0 := b0) (by omega) hD hH hA
      have hG1 := GrpAt_sim hG (fun k hk => Or.inl (r3 (b0 + 1 + k) (by omega)))
      have hGo1 : Gob b0 h1 ea := (r3 b0 (by omega)).trans hGo
      have hA1 : AucAt b0 h1 (b0 + 46) d K t := AucAt_sim hA (Nat.le_of_eq r5.symm) (fun x _ _ => Or.inl (r3 x (by omega))) (fun rl k hr hk => Or.inl (RAd_rem r3 r4 hr hk))
      have o4 : ∀ F : Option zH, onO 4 (b0 + 84) h F = F := fun F => by obtain ⟨o, -, -, h9, -⟩ := hH; exact onO_of' h9
      obtain ⟨h', c1, c2, c3⟩ := A_play (N := N) (b0 := b0) (c := c) (by omega) hG1 hD hC hA1 ho hc
      have hx9 : priT d K t (d 4) c ≤ 9999 := priN_le _
      by_cases hb : playB d (priT d K t (d 4) c)
      · obtain ⟨c4, c5⟩ := c1 hb
        refine P_chg (h1 := h1) (h' := h') (d' := d) (v := -nI 1) hW r2 r3 r4 r5 r6 ?_ c5 c3 hD hC (fun h2 S B1 E H J L U Z W => fun hS => ?_)
        · simp (disch := omega) only [f_X8_play, nlit, neqT, neqF, w_o8 hGo, k1, kB, w_o6 hA (isR_e h45), k2, e2, w_g2 hGo, w_g3 hGo, w_g2 hGo1, o4, r1, w_o0 hA1, c4, zth, Option.bind_some, ↓reduceIte]
        · obtain ⟨J', hJ⟩ := m_priceOf (N := N) (h := h2) (m := b0 + 395) (B := B1) (d := d) (E := E) (J := J) (L := L) (U := U) (Z := Z) (W := W) (p := d 4) (c := c) (by omega) g0 h45 (by omega) (pc c hc).2 (pc c hc).1 hC
          obtain ⟨H', m1, m2⟩ := m_play_ref (N := N) hNN hD hq8 hS ho hc (by omega) hJ hb
          exact ⟨J', H', m1, m2⟩
      · obtain ⟨c4, c5⟩ := c2 hb
        have hb2 : ¬ (d 5 = 20 ∨ d (11 + 19 * d 4) < priT d K t (d 4) c) := hb
        have h5 : d 5 < 20 := by omega
        have hGp := GoodD_play hD h4 h5 hc (show priT d K t (d 4) c ≤ d (11 + 19 * d 4) by omega) hx9
        have hGf : GoodD (finN (playD d c (priT d K t (d 4) c)) (d 4)) := GoodD_fin hGp (by rw [playD_lo (by omega) (by omega) h45 p8]; rw [playD_lo (by omega) (by omega) h45 p8]; exact o2) (by rw [playD_lo (by omega) (by omega) h45 p8]; exact h4)
        refine P_chg (h1 := h1) (h' := h') (d' := finN (playD d c (priT d K t (d 4) c)) (d 4)) (v := b2 (winN (playD d c (priT d K t (d 4) c)))) hW r2 r3 r4 r5 r6 ?_ c5 c3 hGf (CodeR_sm (smC_tr (smC_play hD h4 h5) (smC_fin h45)) hC) (fun h2 S B1 E H J L U Z W => fun hS => ?_)
        · simp (disch := omega) only [f_X8_play, nlit, neqT, neqF, w_o8 hGo, k1, kB, w_o6 hA (isR_e h45), k2, e2, w_g2 hGo, w_g3 hGo, w_g2 hGo1, o4, r1, w_o0 hA1, c4, zth, Option.bind_some, ↓reduceIte]
        · obtain ⟨J', hJ⟩ := m_priceOf (N := N) (h := h2) (m := b0 + 395) (B := B1) (d := d) (E := E) (J := J) (L := L) (U := U) (Z := Z) (W := W) (p := d 4) (c := c) (by omega) g0 h45 (by omega) (pc c hc).2 (pc c hc).1 hC
          obtain ⟨H', m1, m2⟩ := m_play_ok (N := N) hNN hD hGp hq8 hS ho hc (by omega) hJ h5 (by omega)
          exact ⟨J', H', m1, m2⟩
    · have k2 := w_nholds_e (N := N) h4 hx hD hA
      refine P_thr (k := 3) (c := 2) hW ?_ rfl (by omega) (by omega) (fun h2 S B1 E H J L U Z W => m_play_nc (by omega) (by omega) (by omega) ho h45 (by omega) hx)
      simp (disch := omega) only [f_X8_play, nlit, w_o8 hGo, k1, kB, w_o6 hA (isR_e h45), k2, zth, Option.bind_some, ↓reduceIte]
end M97

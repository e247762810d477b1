/-! ===== the model plays and cancels ===== -/
section M72
variable {h : zH} {m N : Nat} {S B D E : Nat → Int32} {H : Nat → Nat → Int32} {J J' : Nat → Int64} {L U Z W : Nat → Int32} {d : Nat → Nat}
theorem m_finishG (hN : 100 < N) {p : Nat} (hD : GoodD d) (h3 : d 3 < d 2) (hp : p < d 1) : f_X9_finish N m (nI p) (mset h m S B (dI d) E H J L U Z W) = some (b2 (winN d), (mset h m S B (dI (finN d p)) E H J L U Z W)) := by
  obtain ⟨⟨g0, g1, g2, g3, g4, g5, g7⟩, gb, gl, gp, gm⟩ := hD
  have m1 := mon_open h3
  have m2 := sumP_ge d (d 1) hp
  exact m_finish hN (by omega) g0 g5 (fun k hk => (gb k hk).2.1) (by omega) (by omega) (by omega) (by omega) (by omega)
theorem m_noCard {x : Int32} (h4 : d 4 < 5) (hn : d (11 + 19 * d 4 + 1) < 100) (h0 : S 0 = nI 0) (hx : inP x (d (11 + 19 * d 4 + 1))) : f_X9_noCard N m x (mset h m S B (dI d) E H J L U Z W) = some (nI 0, (mset h m S B (dI d) E H J L U Z W)) := by
  simp (disch := omega) only [f_X9_noCard, f_X9_noCard_j26, f_X9_fails, f_X9_fails_j16, m_cardsOf, nlit, nlt, nle, neq, nadd, nmul, if_pos, if_neg, if_true, if_false, Option.bind_some, onO_ms, gI_ms, gA_ms, pF_ms, ldI_ms, stI_ms, dI_app, updI, upN_eq, upN_ne, Nat.add_zero, Nat.zero_add, m_in0 (N := N) (show d (11 + 19 * d 4 + 1) < 2 ^ 31 by omega) hx, h0, zB_0']
theorem m_noCard' {x : Int32} (h4 : d 4 < 5) (hn : d (11 + 19 * d 4 + 1) < 100) (h0 : S 0 = nI 0) (hx : ¬ inP x (d (11 + 19 * d 4 + 1))) : f_X9_noCard N m x (mset h m S B (dI d) E H J L U Z W) = some (nI 1, mset h m (upd S 0 (nI 2)) B (dI d) E H J L U Z W) := by
  simp (disch := omega) only [f_X9_noCard, f_X9_noCard_j26, f_X9_fails, f_X9_fails_j16, m_cardsOf, nlit, nlt, nle, neq, nadd, nmul, if_pos, if_neg, if_true, if_false, Option.bind_some, onO_ms, gI_ms, gA_ms, pF_ms, ldI_ms, stI_ms, dI_app, updI, upN_eq, upN_ne, Nat.add_zero, Nat.zero_add, m_in0' (N := N) (show d (11 + 19 * d 4 + 1) < 2 ^ 31 by omega) hx, h0, upS_eq, zB_1']
theorem m_play_ref (hN : 1400 < N) {q c x : Nat} (hD : GoodD d) (hq : q ≤ 8) (hS : S 11 = nI q) (ho : overN d = false) (hc : c < d (11 + 19 * d 4 + 1)) (hx : x < 2 ^ 31) (hpr : ∀ S H, f_X9_priceOf N m (nI (d 4)) (nI c) (mset h m S B (dI d) E H J L U Z W) = some (nI x, mset h m S B (dI d) E H J' L U Z W)) (href : d 5 = 20 ∨ d (11 + 19 * d 4) < x) : ∃ H', f_X9_play N m (nI c) (mset h m S B (dI d) E H J L U Z W) = some (-nI 1, mset h m (upd (upd S 0 (nI 0)) 11 (nI (q - forg q + 1))) B (dI d) E H' J' L U Z W) ∧ RemH H H' (dI d) q := by
  obtain ⟨⟨g0, g1, g2, g3, g4, g5, g7⟩, gb, gl, gp, gm⟩ := hD
  obtain ⟨o1, o3⟩ := overN_false ho
  have h4 : d 4 < d 1 := by omega
  have h45 : d 4 < 5 := by omega
  have c8 := (gp _ h4).1
  have m2 := sumP_ge d (d 1) h4
  have m3 : d (11 + 19 * d 4) < 2 ^ 31 := by unfold monN at gm; omega
  obtain ⟨H', e1, e2⟩ := m_remember (h := h) (m := m) (B := B) (E := E) (L := L) (U := U) (Z := Z) (W := W) (S := upd S 0 (nI 0)) (D := dI d) (H := H) (J := J) hN hq (by rw [upS_ne (by omega)]; exact hS)
  refine ⟨H', ?_, e2⟩
  have n1 := m_noCard (N := N) (h := h) (m := m) (B := B) (E := E) (L := L) (U := U) (Z := Z) (W := W) (S := upd S 0 (nI 0)) (H := H) (J := J) h45 (by omega) (upS_eq _ _ _) ⟨c, hc, rfl⟩
  by_cases c5 : d 5 = 20
  · simp (disch := omega) only [f_X9_play, f_X9_fails, f_X9_fails_j16, m_isOver, ho, b2_f', e1, n1, hpr, upS_eq, upS_ne, m_at, nlit, nlt, nle, neq, nadd, nmul, nsub, if_pos, if_neg, if_true, if_false, Option.bind_some, onO_ms, gI_ms, gA_ms, pF_ms, ldI_ms, stI_ms, dI_app, updI, upN_eq, upN_ne, Nat.add_zero, Nat.zero_add]
  · simp (disch := omega) only [f_X9_play, f_X9_fails, f_X9_fails_j16, m_isOver, ho, b2_f', e1, n1, hpr, upS_eq, upS_ne, m_at, nlit, nlt, nle, neq, nadd, nmul, nsub, if_pos, if_neg, if_true, if_false, Option.bind_some, onO_ms, gI_ms, gA_ms, pF_ms, ldI_ms, stI_ms, dI_app, updI, upN_eq, upN_ne, Nat.add_zero, Nat.zero_add]
theorem m_play_ok (hN : 1400 < N) {q c x : Nat} (hD : GoodD d) (hC : GoodD (playD d c x)) (hq : q ≤ 8) (hS : S 11 = nI q) (ho : overN d = false) (hc : c < d (11 + 19 * d 4 + 1)) (hx : x < 2 ^ 31) (hpr : ∀ S H, f_X9_priceOf N m (nI (d 4)) (nI c) (mset h m S B (dI d) E H J L U Z W) = some (nI x, mset h m S B (dI d) E H J' L U Z W)) (h5 : d 5 < 20) (hpx : x ≤ d (11 + 19 * d 4)) : ∃ H', f_X9_play N m (nI c) (mset h m S B (dI d) E H J L U Z W) = some (b2 (winN (playD d c x)), mset h m (upd (upd S 0 (nI 0)) 11 (nI (q - forg q + 1))) B (dI (finN (playD d c x) (d 4))) E H' J' L U Z W) ∧ RemH H H' (dI d) q := by
  obtain ⟨⟨g0, g1, g2, g3, g4, g5, g7⟩, gb, gl, gp, gm⟩ := hD
  obtain ⟨o1, o3⟩ := overN_false ho
  have h4 : d 4 < d 1 := by omega
  have h45 : d 4 < 5 := by omega
  have c8 := (gp _ h4).1
  have m2 := sumP_ge d (d 1) h4
  have m3 : d (11 + 19 * d 4) < 2 ^ 31 := by unfold monN at gm; omega
  obtain ⟨H', e1, e2⟩ := m_remember (h := h) (m := m) (B := B) (E := E) (L := L) (U := U) (Z := Z) (W := W) (S := upd S 0 (nI 0)) (D := dI d) (H := H) (J := J) hN hq (by rw [upS_ne (by omega)]; exact hS)
  refine ⟨H', ?_, e2⟩
  have n1 := m_noCard (N := N) (h := h) (m := m) (B := B) (E := E) (L := L) (U := U) (Z := Z) (W := W) (S := upd S 0 (nI 0)) (H := H) (J := J) h45 (by omega) (upS_eq _ _ _) ⟨c, hc, rfl⟩
  have e0 : ∀ k, k ≠ 11 + 19 * d 4 → k ≠ 6 → payD d (d 4) x k = d k := fun k h1 h2 => by unfold payD; rw [upN_ne h2, upN_ne h1]
  have e1' : ∀ k, k < 118 → k ≠ 5 → k ≠ 11 + 19 * d 4 → k ≠ 6 → bidN (payD d (d 4) x) (d 4) (d (11 + 19 * d 4 + 3 + 2 * c)) x k = d k := fun k h1 h2 h3 h4 => by rw [bidN_lo h1 h2, e0 k h3 h4]
  have hn8 : bidN (payD d (d 4) x) (d 4) (d (11 + 19 * d 4 + 3 + 2 * c)) x (11 + 19 * d 4 + 1) ≤ 8 := by rw [e1' _ (by omega) (by omega) (by omega) (by omega)]; exact c8
  have k1 : playD d c x 1 = d 1 := by unfold playD; rw [dropN_out hn8 (by omega), e1' 1 (by omega) (by omega) (by omega) (by omega)]
  have k2 : playD d c x 2 = d 2 := by unfold playD; rw [dropN_out hn8 (by omega), e1' 2 (by omega) (by omega) (by omega) (by omega)]
  have k3 : playD d c x 3 = d 3 := by unfold playD; rw [dropN_out hn8 (by omega), e1' 3 (by omega) (by omega) (by omega) (by omega)]
  have q1 := m_dropCard (N := N) (h := h) (m := m) (B := B) (E := E) (L := L) (U := U) (Z := Z) (W := W) (S := upd (upd S 0 (nI 0)) 11 (nI (q - forg q + 1))) (H := H') (J := J') (d := bidN (payD d (d 4) x) (d 4) (d (11 + 19 * d 4 + 3 + 2 * c)) x) (p := d 4) (c := c) (by omega) h45 (by rw [e1' _ (by omega) (by omega) (by omega) (by omega)]; exact hc) hn8
  have q2 := m_finishG (N := N) (h := h) (m := m) (B := B) (E := E) (L := L) (U := U) (Z := Z) (W := W) (S := upd (upd S 0 (nI 0)) 11 (nI (q - forg q + 1))) (H := H') (J := J') (p := d 4) (by omega) hC (by rw [k2, k3]; exact o3) (by rw [k1]; exact h4)
  have q3 : upN (upN (upN (upN (upN (upN d (11 + 19 * d 4) (d (11 + 19 * d 4) - x)) 6 (d 6 + x)) (118 + 3 * d 5) (d 4)) (118 + 3 * d 5 + 1) (d (11 + 19 * d 4 + 3 + 2 * c))) (118 + 3 * d 5 + 2) x) 5 (d 5 + 1) = bidN (payD d (d 4) x) (d 4) (d (11 + 19 * d 4 + 3 + 2 * c)) x := by
    unfold bidN payD
    simp (disch := omega) only [upN_ne]
  have q4 : dropN (bidN (payD d (d 4) x) (d 4) (d (11 + 19 * d 4 + 3 + 2 * c)) x) (d 4) c = playD d c x := rfl
  simp (disch := omega) only [f_X9_play, f_X9_fails, f_X9_fails_j16, m_isOver, ho, b2_f', e1, n1, hpr, upS_eq, upS_ne, m_at, m_payPot, m_elementOf, q3, q1, q4, q2, nlit, nlt, nle, neq, nadd, nmul, nsub, if_pos, if_neg, if_true, if_false, Option.bind_some, onO_ms, gI_ms, gA_ms, pF_ms, ldI_ms, stI_ms, dI_app, updI, upN_eq, upN_ne, Nat.add_zero, Nat.zero_add]
end M72

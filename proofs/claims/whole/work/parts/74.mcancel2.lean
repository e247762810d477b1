/-! ===== the model cancels: the whole move ===== -/
section M74
variable {h : zH} {m N : Nat} {S B D E : Nat → Int32} {H : Nat → Nat → Int32} {J J' : Nat → Int64} {L U Z W : Nat → Int32} {d : Nat → Nat}
theorem m_cancel_ok (hN : 1400 < N) {q c b x : Nat} (hD : GoodD d) (hC : GoodD (canD d c b x)) (hq : q ≤ 8) (hS : S 11 = nI q) (ho : overN d = false) (hc : c < d (11 + 19 * d 4 + 1)) (hb : b < d 5) (hx : x < 2 ^ 31) (hpr : ∀ S H, f_X9_priceOf N m (nI (d 4)) (nI c) (mset h m S B (dI d) E H J L U Z W) = some (nI x, mset h m S B (dI d) E H J' L U Z W)) (hc1 : mulN (cardE d (d 4) c) (bidE d b) = 0) (c2 : d (118 + 3 * b + 2) ≤ x) (hpx : x ≤ d (11 + 19 * d 4)) : ∃ H', f_X9_cancel N m (nI c) (nI b) (mset h m S B (dI d) E H J L U Z W) = some (b2 (winN (canD d c b x)), mset h m (upd (upd S 0 (nI 0)) 11 (nI (q - forg q + 1))) B (dI (finN (canD d c b x) (d 4))) E H' J' L U Z W) ∧ RemH H H' (dI d) q := by
  obtain ⟨⟨g0, g1, g2, g3, g4, g5, g7⟩, gb, gl, gp, gm⟩ := hD
  obtain ⟨o1, o3⟩ := overN_false ho
  have h4 : d 4 < d 1 := by omega
  have h45 : d 4 < 5 := by omega
  obtain ⟨c8, w3, ce⟩ := gp _ h4
  obtain ⟨b1, b2', b3⟩ := gb b hb
  have ho5 : d (118 + 3 * b) < 5 := by omega
  have m2 := sumP_ge d (d 1) h4
  have m3 : d (11 + 19 * d 4) < 2 ^ 31 := by unfold monN at gm; omega
  have m4 : d 6 < 2 ^ 30 := by unfold monN at gm; omega
  have hf := fct_le g0
  obtain ⟨k1, k1'⟩ := isN_idx g0 (ce c hc).1
  obtain ⟨k2, k2'⟩ := isN_idx g0 b2'
  have k3 := inv_in g0 k2
  have w1 : d (11 + 19 * d 4 + 3 + 2 * c) = numN (d 0) (cardE d (d 4) c) := k1'
  have w2 : d (118 + 3 * b + 1) = numN (d 0) (bidE d b) := k2'
  have c1 : numN (d 0) (cardE d (d 4) c) = numN (d 0) (invN (bidE d b)) := (mul_inv_iff g0 k1 k2).mpr hc1
  obtain ⟨H', e1, e2⟩ := m_remember (h := h) (m := m) (B := B) (E := E) (L := L) (U := U) (Z := Z) (W := W) (S := upd S 0 (nI 0)) (D := dI d) (H := H) (J := J) hN hq (by rw [upS_ne (by omega)]; exact hS)
  refine ⟨H', ?_, e2⟩
  have n1 := m_noCard (N := N) (h := h) (m := m) (B := B) (E := E) (L := L) (U := U) (Z := Z) (W := W) (S := upd S 0 (nI 0)) (H := H) (J := J) h45 (by omega) (upS_eq _ _ _) ⟨c, hc, rfl⟩
  have n2 := m_in0 (N := N) (g := mset h m (upd S 0 (nI 0)) B (dI d) E H J L U Z W) (show d 5 < 2 ^ 31 by omega) ⟨b, hb, rfl⟩
  have iv : f_X9_inverseOf N (nI (numN (d 0) (bidE d b))) (nI (d 0)) (mset h m (upd (upd S 0 (nI 0)) 11 (nI (q - forg q + 1))) B (dI d) E H' J' L U Z W) = some (nI (numN (d 0) (invN (bidE d b))), _) := m_inverseOf (by omega) g0 k2
  have hn5 := inN_le g0
  have e0 : ∀ k, k ≠ 11 + 19 * d 4 → k ≠ 6 → (cpayD d (d 4) x (d (118 + 3 * b + 2))) k = d k := fun k h1 h2 => by unfold cpayD; rw [upN_ne h2, upN_ne h1]
  have e1' : ∀ k, k ≠ 11 + 19 * d 4 → k ≠ 6 → k ≠ 11 + 19 * d (118 + 3 * b) → (backD (cpayD d (d 4) x (d (118 + 3 * b + 2))) (d (118 + 3 * b)) (d (118 + 3 * b + 2))) k = d k := fun k h1 h2 h3 => by unfold backD; rw [upN_ne h3, e0 k h1 h2]
  have e2' : ∀ k, k < 118 → k ≠ 5 → k ≠ 11 + 19 * d 4 → k ≠ 6 → k ≠ 11 + 19 * d (118 + 3 * b) → unbD (backD (cpayD d (d 4) x (d (118 + 3 * b + 2))) (d (118 + 3 * b)) (d (118 + 3 * b + 2))) b k = d k := fun k h1 h2 h3 h4 h5 => by rw [unbD_lo h1 h2, e1' k h3 h4 h5]
  have hn8 : unbD (backD (cpayD d (d 4) x (d (118 + 3 * b + 2))) (d (118 + 3 * b)) (d (118 + 3 * b + 2))) b (11 + 19 * d 4 + 1) ≤ 8 := by rw [e2' _ (by omega) (by omega) (by omega) (by omega) (by omega)]; exact c8
  have j1 : canD d c b x 1 = d 1 := by unfold canD; rw [dropN_out hn8 (by omega), e2' 1 (by omega) (by omega) (by omega) (by omega) (by omega)]
  have j2 : canD d c b x 2 = d 2 := by unfold canD; rw [dropN_out hn8 (by omega), e2' 2 (by omega) (by omega) (by omega) (by omega) (by omega)]
  have j3 : canD d c b x 3 = d 3 := by unfold canD; rw [dropN_out hn8 (by omega), e2' 3 (by omega) (by omega) (by omega) (by omega) (by omega)]
  have jo : canD d c b x (11 + 19 * d (118 + 3 * b)) = (cpayD d (d 4) x (d (118 + 3 * b + 2))) (11 + 19 * d (118 + 3 * b)) + d (118 + 3 * b + 2) := by
    unfold canD
    rw [dropN_out hn8 (by omega), unbD_lo (by omega) (by omega)]
    unfold backD
    rw [upN_eq]
  have mo := sumP_ge (canD d c b x) (canD d c b x 1) (p := d (118 + 3 * b)) (by rw [j1]; exact b1)
  have hm : (cpayD d (d 4) x (d (118 + 3 * b + 2))) (11 + 19 * d (118 + 3 * b)) + d (118 + 3 * b + 2) ≤ 999999 := by
    have := hC.2.2.2.2
    unfold monN at this
    rw [jo] at mo
    omega
  have st1 : f_X9_cancel N m (nI c) (nI b) (mset h m S B (dI d) E H J L U Z W) = f_X9_cancel_j47 N m (nI c) (nI b) m (nI 0) (mset h m (upd S 0 (nI 0)) B (dI d) E H J L U Z W) := by
    simp (disch := omega) only [f_X9_cancel, f_X9_fails, f_X9_fails_j16, m_isOver, ho, b2_f', n1, n2, upS_eq, nlit, nltT, nltF, nleT, nleF, neqT, neqF, nadd, nmul, ↓reduceIte, Option.bind_some, onO_ms, gI_ms, gA_ms, pF_ms, ldI_ms, stI_ms, dI_app, updI, upN_eq, upN_ne, Nat.add_zero, Nat.zero_add]
  have qf : upN (upN d (11 + 19 * d 4) (d (11 + 19 * d 4) - x)) 6 (d 6 + (x - d (118 + 3 * b + 2))) = (cpayD d (d 4) x (d (118 + 3 * b + 2))) := rfl
  have qv : d 6 + x - d (118 + 3 * b + 2) = d 6 + (x - d (118 + 3 * b + 2)) := by omega
  have q0 := m_payInto (N := N) (h := h) (m := m) (B := B) (E := E) (L := L) (U := U) (Z := Z) (W := W) (S := upd (upd S 0 (nI 0)) 11 (nI (q - forg q + 1))) (H := H') (J := J') (d := (cpayD d (d 4) x (d (118 + 3 * b + 2)))) (p := d (118 + 3 * b)) (x := d (118 + 3 * b + 2)) ho5 hm
  have qb : upN (cpayD d (d 4) x (d (118 + 3 * b + 2))) (11 + 19 * d (118 + 3 * b)) ((cpayD d (d 4) x (d (118 + 3 * b + 2))) (11 + 19 * d (118 + 3 * b)) + d (118 + 3 * b + 2)) = (backD (cpayD d (d 4) x (d (118 + 3 * b + 2))) (d (118 + 3 * b)) (d (118 + 3 * b + 2))) := rfl
  rw [qb] at q0
  have qu : ∀ (x1 x3 : Int32) (kk : zH → Option (Int32 × zH)), f_X9_cancel_l181 N m x1 x3 kk N (nI (118 + 3 * b)) (mset h m (upd (upd S 0 (nI 0)) 11 (nI (q - forg q + 1))) B (dI (upN (backD (cpayD d (d 4) x (d (118 + 3 * b + 2))) (d (118 + 3 * b)) (d (118 + 3 * b + 2))) 5 (d 5 - 1))) E H' J' L U Z W) = kk (mset h m (upd (upd S 0 (nI 0)) 11 (nI (q - forg q + 1))) B (dI (unbD (backD (cpayD d (d 4) x (d (118 + 3 * b + 2))) (d (118 + 3 * b)) (d (118 + 3 * b + 2))) b)) E H' J' L U Z W) := by
    intro x1 x3 kk
    have u1 := m_unb_l (N := N) (h := h) (m := m) (B := B) (E := E) (L := L) (U := U) (Z := Z) (W := W) (S := upd (upd S 0 (nI 0)) 11 (nI (q - forg q + 1))) (H := H') (J := J') (x1 := x1) (x3 := x3) kk (3 * (d 5 - 1 - b)) (118 + 3 * b) N (upN (backD (cpayD d (d 4) x (d (118 + 3 * b + 2))) (d (118 + 3 * b)) (d (118 + 3 * b + 2))) 5 (d 5 - 1)) (by rw [upN_eq]; omega) (by rw [upN_eq]; omega) (by omega) (by omega)
    rw [u1]
    unfold unbD
    rw [e1' 5 (by omega) (by omega) (by omega)]
  have q1 := m_dropCard (N := N) (h := h) (m := m) (B := B) (E := E) (L := L) (U := U) (Z := Z) (W := W) (S := upd (upd S 0 (nI 0)) 11 (nI (q - forg q + 1))) (H := H') (J := J') (d := unbD (backD (cpayD d (d 4) x (d (118 + 3 * b + 2))) (d (118 + 3 * b)) (d (118 + 3 * b + 2))) b) (p := d 4) (c := c) (by omega) h45 (by rw [e2' _ (by omega) (by omega) (by omega) (by omega) (by omega)]; exact hc) hn8
  have q4 : dropN (unbD (backD (cpayD d (d 4) x (d (118 + 3 * b + 2))) (d (118 + 3 * b)) (d (118 + 3 * b + 2))) b) (d 4) c = canD d c b x := rfl
  rw [q4] at q1
  have q2 := m_finishG (N := N) (h := h) (m := m) (B := B) (E := E) (L := L) (U := U) (Z := Z) (W := W) (S := upd (upd S 0 (nI 0)) 11 (nI (q - forg q + 1))) (H := H') (J := J') (p := d 4) (by omega) hC (by rw [j2, j3]; exact o3) (by rw [j1]; exact h4)
  rw [st1]
  simp (config := { maxSteps := 1000000 }) (disch := omega) only [f_X9_cancel_j47, f_X9_fails, f_X9_fails_j16, e1, hpr, upS_eq, m_at, m_ofBid, m_elementOf, w1, w2, iv, c1, m_payPot, upN_upN, qv, qf, e0, q0, e1', qu, q1, q2, nlit, nltT, nltF, nleT, nleF, neqT, neqF, nadd, nmul, nsub, ↓reduceIte, Option.bind_some, onO_ms, gI_ms, gA_ms, pF_ms, ldI_ms, stI_ms, dI_app, updI, upN_eq, upN_ne, Nat.add_zero, Nat.zero_add]
end M74

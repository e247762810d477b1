/-! ===== the model cancels ===== -/
theorem nltT {a b : Nat} (hb : b < 2 ^ 31) (h : a < b) : (nI a < nI b) = True := by rw [nlt (by omega) hb]; exact eq_true h
theorem nltF {a b : Nat} (ha : a < 2 ^ 31) (h : b ≤ a) : (nI a < nI b) = False := by rw [nlt ha (by omega)]; exact eq_false (by omega)
theorem nleT {a b : Nat} (hb : b < 2 ^ 31) (h : a ≤ b) : (nI a ≤ nI b) = True := by rw [nle (by omega) hb]; exact eq_true h
theorem nleF {a b : Nat} (ha : a < 2 ^ 31) (h : b < a) : (nI a ≤ nI b) = False := by rw [nle ha (by omega)]; exact eq_false (by omega)
theorem neqT {a b : Nat} (h : a = b) : (nI a = nI b) = True := by rw [h]; exact eq_self _
theorem neqF {a b : Nat} (ha : a < 2 ^ 31) (hb : b < 2 ^ 31) (h : a ≠ b) : (nI a = nI b) = False := by rw [neq ha hb]; exact eq_false h
section M73
variable {h : zH} {m N : Nat} {S B D E : Nat → Int32} {H : Nat → Nat → Int32} {J J' : Nat → Int64} {L U Z W : Nat → Int32} {d : Nat → Nat}
theorem m_unb_l {x1 x3 : Int32} (k1 : zH → Option (Int32 × zH)) : ∀ (r k f : Nat) (d : Nat → Nat), k + r = 118 + 3 * d 5 → d 5 ≤ 20 → 118 ≤ k → r < f → f_X9_cancel_l181 N m x1 x3 k1 f (nI k) (mset h m S B (dI d) E H J L U Z W) = k1 (mset h m S B (dI (shN d k r 3)) E H J L U Z W) := by
  intro r
  induction r with
  | zero =>
    intro k f d hk h5 h1 hf
    obtain ⟨f, rfl⟩ : ∃ m, f = m + 1 := ⟨f - 1, by omega⟩
    rw [shN_0]
    simp (disch := omega) only [f_X9_cancel_l181, nlit, nlt, nle, neq, nadd, nmul, nsub, if_pos, if_neg, if_true, if_false, Option.bind_some, onO_ms, gI_ms, gA_ms, pF_ms, ldI_ms, stI_ms, dI_app, updI, upN_eq, upN_ne, Nat.add_zero, Nat.zero_add]
  | succ r ih =>
    intro k f d hk h5 h1 hf
    obtain ⟨f, rfl⟩ : ∃ m, f = m + 1 := ⟨f - 1, by omega⟩
    simp (disch := omega) only [f_X9_cancel_l181, nlit, nlt, nle, neq, nadd, nmul, nsub, if_pos, if_neg, if_true, if_false, Option.bind_some, onO_ms, gI_ms, gA_ms, pF_ms, ldI_ms, stI_ms, dI_app, updI, upN_eq, upN_ne, Nat.add_zero, Nat.zero_add]
    rw [ih (k + 1) f _ (by rw [upN_ne (by omega)]; omega) (by rw [upN_ne (by omega)]; omega) (by omega) (by omega), shN_step _ _ _ _ (by omega)]
theorem mul_inv_iff {n a b : Nat} (hn : inN n) (ha : a < fctN n) (hb : b < fctN n) : numN n a = numN n (invN b) ↔ mulN a b = 0 := by
  have hf := fct_le hn
  rw [num_inj hn ha (inv_in hn hb), mul_eq0 (Nat.lt_of_lt_of_le ha hf) (Nat.lt_of_lt_of_le hb hf)]
  constructor
  · intro e
    rw [e, inv_inv (Nat.lt_of_lt_of_le hb hf)]
  · intro e
    rw [e, inv_inv (Nat.lt_of_lt_of_le ha hf)]
theorem m_cancel_ref (hN : 1400 < N) {q c b x : Nat} (hD : GoodD d) (hq : q ≤ 8) (hS : S 11 = nI q) (ho : overN d = false) (hc : c < d (11 + 19 * d 4 + 1)) (hb : b < d 5) (hx : x < 2 ^ 31) (hpr : ∀ S H, f_X9_priceOf N m (nI (d 4)) (nI c) (mset h m S B (dI d) E H J L U Z W) = some (nI x, mset h m S B (dI d) E H J' L U Z W)) (href : mulN (cardE d (d 4) c) (bidE d b) ≠ 0 ∨ x < d (118 + 3 * b + 2) ∨ d (11 + 19 * d 4) < x) : ∃ H', f_X9_cancel N m (nI c) (nI b) (mset h m S B (dI d) E H J L U Z W) = some (-nI 1, mset h m (upd (upd S 0 (nI 0)) 11 (nI (q - forg q + 1))) B (dI d) E H' J' L U Z W) ∧ RemH H H' (dI d) q := by
  obtain ⟨⟨g0, g1, g2, g3, g4, g5, g7⟩, gb, gl, gp, gm⟩ := hD
  obtain ⟨o1, o3⟩ := overN_false ho
  have h4 : d 4 < d 1 := by omega
  have h45 : d 4 < 5 := by omega
  obtain ⟨c8, w3, ce⟩ := gp _ h4
  obtain ⟨b1, b2', b3⟩ := gb b hb
  have m2 := sumP_ge d (d 1) h4
  have m3 : d (11 + 19 * d 4) < 2 ^ 31 := by unfold monN at gm; omega
  have hf := fct_le g0
  obtain ⟨k1, k1'⟩ := isN_idx g0 (ce c hc).1
  obtain ⟨k2, k2'⟩ := isN_idx g0 b2'
  have k3 := inv_in g0 k2
  have w1 : d (11 + 19 * d 4 + 3 + 2 * c) = numN (d 0) (cardE d (d 4) c) := k1'
  have w2 : d (118 + 3 * b + 1) = numN (d 0) (bidE d b) := k2'
  have z1 : numN (d 0) (cardE d (d 4) c) < 100000 := num_lt g0 (Nat.lt_of_lt_of_le k1 hf)
  have z2 : numN (d 0) (invN (bidE d b)) < 100000 := num_lt g0 (Nat.lt_of_lt_of_le k3 hf)
  have mi : numN (d 0) (cardE d (d 4) c) = numN (d 0) (invN (bidE d b)) ↔ mulN (cardE d (d 4) c) (bidE d b) = 0 := mul_inv_iff g0 k1 k2
  obtain ⟨H', e1, e2⟩ := m_remember (h := h) (m := m) (B := B) (E := E) (L := L) (U := U) (Z := Z) (W := W) (S := upd S 0 (nI 0)) (D := dI d) (H := H) (J := J) hN hq (by rw [upS_ne (by omega)]; exact hS)
  refine ⟨H', ?_, e2⟩
  have n1 := m_noCard (N := N) (h := h) (m := m) (B := B) (E := E) (L := L) (U := U) (Z := Z) (W := W) (S := upd S 0 (nI 0)) (H := H) (J := J) h45 (by omega) (upS_eq _ _ _) ⟨c, hc, rfl⟩
  have n2 := m_in0 (N := N) (g := mset h m (upd S 0 (nI 0)) B (dI d) E H J L U Z W) (show d 5 < 2 ^ 31 by omega) ⟨b, hb, rfl⟩
  have iv : f_X9_inverseOf N (nI (numN (d 0) (bidE d b))) (nI (d 0)) (mset h m (upd (upd S 0 (nI 0)) 11 (nI (q - forg q + 1))) B (dI d) E H' J' L U Z W) = some (nI (numN (d 0) (invN (bidE d b))), _) := m_inverseOf (by omega) g0 k2
  have hn5 := inN_le g0
  have st1 : f_X9_cancel N m (nI c) (nI b) (mset h m S B (dI d) E H J L U Z W) = f_X9_cancel_j47 N m (nI c) (nI b) m (nI 0) (mset h m (upd S 0 (nI 0)) B (dI d) E H J L U Z W) := by
    simp (disch := omega) only [f_X9_cancel, f_X9_fails, f_X9_fails_j16, m_isOver, ho, b2_f', n1, n2, upS_eq, nlit, nltT, nltF, nleT, nleF, neqT, neqF, nadd, nmul, ↓reduceIte, Option.bind_some, onO_ms, gI_ms, gA_ms, pF_ms, ldI_ms, stI_ms, dI_app, updI, upN_eq, upN_ne, Nat.add_zero, Nat.zero_add]
  rw [st1]
  by_cases c1 : numN (d 0) (cardE d (d 4) c) = numN (d 0) (invN (bidE d b))
  · have c1' := mi.mp c1
    by_cases c2 : x < d (118 + 3 * b + 2)
    · simp (disch := omega) only [f_X9_cancel_j47, f_X9_fails, f_X9_fails_j16, e1, hpr, upS_eq, m_at, m_ofBid, m_elementOf, w1, w2, iv, c1, nlit, nltT, nltF, nleT, nleF, neqT, neqF, nadd, nmul, ↓reduceIte, Option.bind_some, onO_ms, gI_ms, gA_ms, pF_ms, ldI_ms, stI_ms, dI_app, updI, upN_eq, upN_ne, Nat.add_zero, Nat.zero_add]
    · simp (disch := omega) only [f_X9_cancel_j47, f_X9_fails, f_X9_fails_j16, e1, hpr, upS_eq, m_at, m_ofBid, m_elementOf, w1, w2, iv, c1, nlit, nltT, nltF, nleT, nleF, neqT, neqF, nadd, nmul, ↓reduceIte, Option.bind_some, onO_ms, gI_ms, gA_ms, pF_ms, ldI_ms, stI_ms, dI_app, updI, upN_eq, upN_ne, Nat.add_zero, Nat.zero_add]
  · have c3 : (nI (numN (d 0) (cardE d (d 4) c)) = nI (numN (d 0) (invN (bidE d b)))) = False := neqF (by omega) (by omega) c1
    simp (config := { maxSteps := 1000000 }) (disch := omega) only [f_X9_cancel_j47, f_X9_fails, f_X9_fails_j16, e1, hpr, upS_eq, m_at, m_ofBid, m_elementOf, w1, w2, iv, c3, nlit, nltT, nltF, nleT, nleF, neqT, neqF, nadd, nmul, ↓reduceIte, Option.bind_some, onO_ms, gI_ms, gA_ms, pF_ms, ldI_ms, stI_ms, dI_app, updI, upN_eq, upN_ne, Nat.add_zero, Nat.zero_add]
end M73

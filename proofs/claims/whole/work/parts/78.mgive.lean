/-! ===== the model gives and discards ===== -/
section M78
variable {h : zH} {m N : Nat} {S B D E : Nat → Int32} {H : Nat → Nat → Int32} {J J' : Nat → Int64} {L U Z W : Nat → Int32} {d : Nat → Nat}
theorem m_give_p {x y z : Int32} (h1 : d 1 < 100) (hx : ¬ inP x (d 1)) : f_X9_give N m x y z (mset h m S B (dI d) E H J L U Z W) = some (nI 0, mset h m (upd S 0 (nI 1)) B (dI d) E H J L U Z W) := by
  have n1 := m_noPlayer' (N := N) (h := h) (m := m) (B := B) (E := E) (L := L) (U := U) (Z := Z) (W := W) (S := upd S 0 (nI 0)) (H := H) (J := J) h1 (upS_eq _ _ _) hx
  simp (disch := omega) only [f_X9_give, n1, upS_upS, nlit, nltT, nltF, nleT, nleF, neqT, neqF, nadd, nmul, ↓reduceIte, Option.bind_some, onO_ms, gI_ms, gA_ms, pF_ms, ldI_ms, stI_ms, dI_app, updI, upN_eq, upN_ne, Nat.add_zero, Nat.zero_add]
theorem m_give_e (hN : 10 < N) {x y z : Int32} (h1 : d 1 < 100) (hn : inN (d 0)) (hx : inP x (d 1)) (hy : (eltI (d 0) y).isSome = false) : f_X9_give N m x y z (mset h m S B (dI d) E H J L U Z W) = some (nI 0, mset h m (upd S 0 (nI 2)) B (dI d) E H J L U Z W) := by
  have n1 := m_noPlayer (N := N) (h := h) (m := m) (B := B) (E := E) (L := L) (U := U) (Z := Z) (W := W) (S := upd S 0 (nI 0)) (H := H) (J := J) h1 (upS_eq _ _ _) hx
  have n2 := m_noElement' (N := N) (h := h) (m := m) (B := B) (E := E) (L := L) (U := U) (Z := Z) (W := W) (S := upd S 0 (nI 0)) (H := H) (J := J) (y := 2) hN hn (upS_eq _ _ _) hy (by omega) (by omega)
  simp (disch := omega) only [f_X9_give, n1, n2, upS_upS, nlit, nltT, nltF, nleT, nleF, neqT, neqF, nadd, nmul, ↓reduceIte, Option.bind_some, onO_ms, gI_ms, gA_ms, pF_ms, ldI_ms, stI_ms, dI_app, updI, upN_eq, upN_ne, Nat.add_zero, Nat.zero_add]
theorem m_give_b (hN : 10 < N) {p : Nat} {y z : Int32} (h1 : d 1 ≤ 5) (hn : inN (d 0)) (hp : p < d 1) (hy : (eltI (d 0) y).isSome = true) (hz : z < nI 1 ∨ nI 999 < z) : f_X9_give N m (nI p) y z (mset h m S B (dI d) E H J L U Z W) = some (nI 0, mset h m (upd S 0 (nI 2)) B (dI d) E H J L U Z W) := by
  have n1 := m_noPlayer (N := N) (h := h) (m := m) (B := B) (E := E) (L := L) (U := U) (Z := Z) (W := W) (S := upd S 0 (nI 0)) (H := H) (J := J) (x := nI p) (by omega) (upS_eq _ _ _) ⟨p, hp, rfl⟩
  have n2 := m_noElement (N := N) (h := h) (m := m) (B := B) (E := E) (L := L) (U := U) (Z := Z) (W := W) (S := upd S 0 (nI 0)) (H := H) (J := J) (y := nI 2) hN hn (upS_eq _ _ _) hy
  have n3 : f_X9_in N z (nI 1) (nI 999) (mset h m (upd S 0 (nI 0)) B (dI d) E H J L U Z W) = some (nI 0, mset h m (upd S 0 (nI 0)) B (dI d) E H J L U Z W) := by
    rw [f_X9_in]
    by_cases hz1 : z < nI 1
    · rw [if_pos hz1]; rfl
    · rw [if_neg hz1, if_pos (by rcases hz with h | h; exact absurd h hz1; exact h)]; rfl
  simp (disch := omega) only [f_X9_give, f_X9_give_j39, f_X9_fails, f_X9_fails_j16, n1, n2, n3, upS_eq, upS_upS, nlit, nltT, nltF, nleT, nleF, neqT, neqF, nadd, nmul, ↓reduceIte, Option.bind_some, onO_ms, gI_ms, gA_ms, pF_ms, ldI_ms, stI_ms, dI_app, updI, upN_eq, upN_ne, Nat.add_zero, Nat.zero_add]
theorem m_inB {b : Nat} {g : zH} (h1 : 1 ≤ b) (h9 : b ≤ 999) : f_X9_in N (nI b) (nI 1) (nI 999) g = some (nI 1, g) := by
  simp (disch := omega) only [f_X9_in, nlit, nltT, nltF, nleT, nleF, neqT, neqF, nadd, nmul, ↓reduceIte, Option.bind_some, onO_ms, gI_ms, gA_ms, pF_ms, ldI_ms, stI_ms, dI_app, updI, upN_eq, upN_ne, Nat.add_zero, Nat.zero_add]
theorem m_give_full (hN : 10 < N) {p b : Nat} {y : Int32} (h1 : d 1 ≤ 5) (hn : inN (d 0)) (hp : p < d 1) (hy : (eltI (d 0) y).isSome = true) (hb1 : 1 ≤ b) (hb : b ≤ 999) (h8 : d (11 + 19 * p + 1) = 8) : f_X9_give N m (nI p) y (nI b) (mset h m S B (dI d) E H J L U Z W) = some (nI 0, mset h m (upd S 0 (nI 3)) B (dI d) E H J L U Z W) := by
  have n1 := m_noPlayer (N := N) (h := h) (m := m) (B := B) (E := E) (L := L) (U := U) (Z := Z) (W := W) (S := upd S 0 (nI 0)) (H := H) (J := J) (x := nI p) (by omega) (upS_eq _ _ _) ⟨p, hp, rfl⟩
  have n2 := m_noElement (N := N) (h := h) (m := m) (B := B) (E := E) (L := L) (U := U) (Z := Z) (W := W) (S := upd S 0 (nI 0)) (H := H) (J := J) (y := nI 2) hN hn (upS_eq _ _ _) hy
  simp (disch := omega) only [f_X9_give, f_X9_give_j39, f_X9_give_j62, f_X9_fails, f_X9_fails_j16, n1, n2, m_inB, m_cardsOf, upS_eq, upS_upS, nlit, nltT, nltF, nleT, nleF, neqT, neqF, nadd, nmul, ↓reduceIte, Option.bind_some, onO_ms, gI_ms, gA_ms, pF_ms, ldI_ms, stI_ms, dI_app, updI, upN_eq, upN_ne, Nat.add_zero, Nat.zero_add]
theorem m_give_ok (hN : 1400 < N) {q p e b : Nat} (hq : q ≤ 8) (hS : S 11 = nI q) (h1 : d 1 ≤ 5) (hn : inN (d 0)) (hp : p < d 1) (he : e < fctN (d 0)) (hb1 : 1 ≤ b) (hb : b ≤ 999) (h8 : d (11 + 19 * p + 1) < 8) : ∃ H', f_X9_give N m (nI p) (nI (numN (d 0) e)) (nI b) (mset h m S B (dI d) E H J L U Z W) = some (nI (d (11 + 19 * p + 1) + 1), mset h m (upd (upd S 0 (nI 0)) 11 (nI (q - forg q + 1))) B (dI (giveN d p (numN (d 0) e) b)) E H' J L U Z W) ∧ RemH H H' (dI d) q := by
  obtain ⟨H', e1, e2⟩ := m_remember (h := h) (m := m) (B := B) (E := E) (L := L) (U := U) (Z := Z) (W := W) (S := upd S 0 (nI 0)) (D := dI d) (H := H) (J := J) hN hq (by rw [upS_ne (by omega)]; exact hS)
  refine ⟨H', ?_, e2⟩
  have hl := num_lt hn (Nat.lt_of_lt_of_le he (fct_le hn))
  have hy : (eltI (d 0) (nI (numN (d 0) e))).isSome = true := by rw [eltI_nI (by omega), elt_num hn he]; rfl
  have n1 := m_noPlayer (N := N) (h := h) (m := m) (B := B) (E := E) (L := L) (U := U) (Z := Z) (W := W) (S := upd S 0 (nI 0)) (H := H) (J := J) (x := nI p) (by omega) (upS_eq _ _ _) ⟨p, hp, rfl⟩
  have n2 := m_noElement (N := N) (h := h) (m := m) (B := B) (E := E) (L := L) (U := U) (Z := Z) (W := W) (S := upd S 0 (nI 0)) (H := H) (J := J) (y := nI 2) (by omega) hn (upS_eq _ _ _) hy
  have n4 := m_putCard (N := N) (h := h) (m := m) (B := B) (E := E) (L := L) (U := U) (Z := Z) (W := W) (S := upd (upd S 0 (nI 0)) 11 (nI (q - forg q + 1))) (H := H') (J := J) (d := d) (p := p) (e := numN (d 0) e) (b := b) (by omega) h8
  have n5 := m_cardsOf (N := N) (h := h) (m := m) (B := B) (E := E) (L := L) (U := U) (Z := Z) (W := W) (S := upd (upd S 0 (nI 0)) 11 (nI (q - forg q + 1))) (H := H') (J := J) (d := giveN d p (numN (d 0) e) b) (p := p) (by omega)
  rw [show giveN d p (numN (d 0) e) b (11 + 19 * p + 1) = d (11 + 19 * p + 1) + 1 from upN_eq _ _ _] at n5
  have n6 : upN (upN (upN d (11 + 19 * p + 3 + 2 * d (11 + 19 * p + 1)) (numN (d 0) e)) (11 + 19 * p + 3 + 2 * d (11 + 19 * p + 1) + 1) b) (11 + 19 * p + 1) (d (11 + 19 * p + 1) + 1) = giveN d p (numN (d 0) e) b := rfl
  rw [n6] at n4
  simp (disch := omega) only [f_X9_give, f_X9_give_j39, f_X9_give_j62, f_X9_fails, f_X9_fails_j16, n1, n2, m_inB, m_cardsOf, e1, n4, n5, upS_eq, upS_upS, nlit, nltT, nltF, nleT, nleF, neqT, neqF, nadd, nmul, ↓reduceIte, Option.bind_some, onO_ms, gI_ms, gA_ms, pF_ms, ldI_ms, stI_ms, dI_app, updI, upN_eq, upN_ne, Nat.add_zero, Nat.zero_add]
theorem m_discard_p {x y : Int32} (h1 : d 1 < 100) (hx : ¬ inP x (d 1)) : f_X9_discard N m x y (mset h m S B (dI d) E H J L U Z W) = some (nI 0, mset h m (upd S 0 (nI 1)) B (dI d) E H J L U Z W) := by
  have n1 := m_noPlayer' (N := N) (h := h) (m := m) (B := B) (E := E) (L := L) (U := U) (Z := Z) (W := W) (S := upd S 0 (nI 0)) (H := H) (J := J) h1 (upS_eq _ _ _) hx
  simp (disch := omega) only [f_X9_discard, n1, upS_upS, nlit, nltT, nltF, nleT, nleF, neqT, neqF, nadd, nmul, ↓reduceIte, Option.bind_some, onO_ms, gI_ms, gA_ms, pF_ms, ldI_ms, stI_ms, dI_app, updI, upN_eq, upN_ne, Nat.add_zero, Nat.zero_add]
theorem m_discard_c {p : Nat} {y : Int32} (h1 : d 1 ≤ 5) (hp : p < d 1) (h8 : d (11 + 19 * p + 1) ≤ 8) (hy : ¬ inP y (d (11 + 19 * p + 1))) : f_X9_discard N m (nI p) y (mset h m S B (dI d) E H J L U Z W) = some (nI 0, mset h m (upd S 0 (nI 2)) B (dI d) E H J L U Z W) := by
  have n1 := m_noPlayer (N := N) (h := h) (m := m) (B := B) (E := E) (L := L) (U := U) (Z := Z) (W := W) (S := upd S 0 (nI 0)) (H := H) (J := J) (x := nI p) (by omega) (upS_eq _ _ _) ⟨p, hp, rfl⟩
  have n2 := m_in0' (N := N) (g := mset h m (upd S 0 (nI 0)) B (dI d) E H J L U Z W) (show d (11 + 19 * p + 1) < 2 ^ 31 by omega) hy
  simp (disch := omega) only [f_X9_discard, f_X9_discard_j34, f_X9_fails, f_X9_fails_j16, n1, n2, m_cardsOf, upS_eq, upS_upS, nlit, nltT, nltF, nleT, nleF, neqT, neqF, nadd, nmul, ↓reduceIte, Option.bind_some, onO_ms, gI_ms, gA_ms, pF_ms, ldI_ms, stI_ms, dI_app, updI, upN_eq, upN_ne, Nat.add_zero, Nat.zero_add]
theorem m_discard_ok (hN : 1400 < N) {q p c : Nat} (hq : q ≤ 8) (hS : S 11 = nI q) (h1 : d 1 ≤ 5) (hp : p < d 1) (h8 : d (11 + 19 * p + 1) ≤ 8) (hc : c < d (11 + 19 * p + 1)) : ∃ H', f_X9_discard N m (nI p) (nI c) (mset h m S B (dI d) E H J L U Z W) = some (nI (d (11 + 19 * p + 3 + 2 * c)), mset h m (upd (upd S 0 (nI 0)) 11 (nI (q - forg q + 1))) B (dI (dropN d p c)) E H' J L U Z W) ∧ RemH H H' (dI d) q := by
  obtain ⟨H', e1, e2⟩ := m_remember (h := h) (m := m) (B := B) (E := E) (L := L) (U := U) (Z := Z) (W := W) (S := upd S 0 (nI 0)) (D := dI d) (H := H) (J := J) hN hq (by rw [upS_ne (by omega)]; exact hS)
  refine ⟨H', ?_, e2⟩
  have n1 := m_noPlayer (N := N) (h := h) (m := m) (B := B) (E := E) (L := L) (U := U) (Z := Z) (W := W) (S := upd S 0 (nI 0)) (H := H) (J := J) (x := nI p) (by omega) (upS_eq _ _ _) ⟨p, hp, rfl⟩
  have n2 := m_in0 (N := N) (g := mset h m (upd S 0 (nI 0)) B (dI d) E H J L U Z W) (show d (11 + 19 * p + 1) < 2 ^ 31 by omega) ⟨c, hc, rfl⟩
  have n3 := m_dropCard (N := N) (h := h) (m := m) (B := B) (E := E) (L := L) (U := U) (Z := Z) (W := W) (S := upd (upd S 0 (nI 0)) 11 (nI (q - forg q + 1))) (H := H') (J := J) (d := d) (p := p) (c := c) (by omega) (by omega) hc h8
  simp (disch := omega) only [f_X9_discard, f_X9_discard_j34, f_X9_fails, f_X9_fails_j16, n1, n2, n3, m_cardsOf, m_elementOf, e1, upS_eq, upS_upS, nlit, nltT, nltF, nleT, nleF, neqT, neqF, nadd, nmul, ↓reduceIte, Option.bind_some, onO_ms, gI_ms, gA_ms, pF_ms, ldI_ms, stI_ms, dI_app, updI, upN_eq, upN_ne, Nat.add_zero, Nat.zero_add]
end M78

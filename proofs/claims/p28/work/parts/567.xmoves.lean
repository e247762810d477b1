def RowOK (R : Nat → Int32) : Prop := ∀ r, isR r = true → ∃ s, s ≤ rlen r ∧ R r = nI s
theorem RowOK_up {R : Nat → Int32} {r s : Nat} (hR : RowOK R) (hs : s ≤ rlen r) : RowOK (upd R r (nI s)) := by
  intro q hq
  by_cases hqr : q = r
  · subst hqr
    exact ⟨s, hs, upS_eq _ _ _⟩
  · rw [upS_ne hqr]
    exact hR q hq
def lotR (R : Nat → Int32) : Nat → Int32 := upd (upd (upd R 29 (nI 0)) 31 (nI 0)) 33 (nI 0)
theorem RowOK_lot {R : Nat → Int32} (hR : RowOK R) : RowOK (lotR R) := RowOK_up (RowOK_up (RowOK_up hR (Nat.zero_le _)) (Nat.zero_le _)) (Nat.zero_le _)
section M67
variable {h : zH} {a g rl N : Nat} {T R : Nat → Int32} {X : Nat → Nat → Int32} {P Q : Nat → Int32} {d : Nat → Nat}
theorem x_passTurn (hA : AucR d T R X P Q) (hR : RowOK R) (h1 : d 1 ≤ 5) (h4 : d 4 < d 1) (h7 : d 7 < 100) : ∃ T' R', f_X0_passTurn N a (aset h a g rl T R X P Q) = some (b2 (decide (d 7 + 1 = d 1)), aset h a g rl T' R' X P Q) ∧ AucR (passN d) T' R' X P Q ∧ RowOK R' := by
  obtain ⟨⟨t8, t9, t10, t11, t12, t13, t14⟩, ⟨r27, r29, r31, r33⟩, al, ab, ap⟩ := id hA
  by_cases c : d 7 + 1 = d 1
  · have q1 := x_openNextLot (N := N) (h := h) (a := a) (g := g) (rl := rl) (T := upd (upd T 13 (nI (d 7 + 1))) 14 (nI (d 8 + d 6))) (R := R) (X := X) (P := P) (Q := Q) (k := d 3) (by rw [upS_ne (by omega), upS_ne (by omega)]; exact t10)
    have q2 := x_turnToNext (N := N) (h := h) (a := a) (g := g) (rl := rl) (T := upd (upd (upd (upd (upd T 13 (nI (d 7 + 1))) 14 (nI (d 8 + d 6))) 10 (nI (d 3 + 1))) 12 (nI 0)) 13 (nI 0)) (R := lotR R) (X := X) (P := P) (Q := Q) (t := d 4) (n := d 1) (by simp (disch := omega) only [upS_ne]; exact t11) (by simp (disch := omega) only [upS_ne]; exact t9) (by omega) (by omega) h4
    refine ⟨upd (upd (upd (upd (upd (upd T 13 (nI (d 7 + 1))) 14 (nI (d 8 + d 6))) 10 (nI (d 3 + 1))) 12 (nI 0)) 13 (nI 0)) 11 (nI ((d 4 + 1) % d 1)), lotR R, ?_, ?_, RowOK_lot hR⟩
    · rw [decide_eq_true c]
      unfold lotR at q2 ⊢
      simp (disch := first | assumption | exact isR_27 | exact isR_29 | exact isR_31 | exact isR_33 | omega) only [f_X0_passTurn, f_X0_passTurn_j26, f_X0_passTurn_j48, t9, t12, t13, t14, q1, q2, nlit, nlt, nle, neq, nadd, nmul, nsub, if_pos, if_neg, if_true, if_false, Option.bind_some, onO_a, onO_b, onO_r, gI_a, gA_a, pF_a, pF_rl, gI_b, gA_b, pF_bP, pF_bQ, ldQ_a, upS_eq, upS_ne, updH_eq, updH_ne, Nat.add_zero, Nat.zero_add, zjn, znl]
      rfl
    · rw [passN, if_pos c]
      exact AucR_turn (AucR_lot (AucR_house (AucR_passes hA)) h1)
  · have q2 := x_turnToNext (N := N) (h := h) (a := a) (g := g) (rl := rl) (T := upd T 13 (nI (d 7 + 1))) (R := R) (X := X) (P := P) (Q := Q) (t := d 4) (n := d 1) (by simp (disch := omega) only [upS_ne]; exact t11) (by simp (disch := omega) only [upS_ne]; exact t9) (by omega) (by omega) h4
    refine ⟨upd (upd T 13 (nI (d 7 + 1))) 11 (nI ((d 4 + 1) % d 1)), R, ?_, ?_, hR⟩
    · rw [decide_eq_false c]
      simp (disch := first | assumption | exact isR_27 | exact isR_29 | exact isR_31 | exact isR_33 | omega) only [f_X0_passTurn, f_X0_passTurn_j26, f_X0_passTurn_j48, t9, t12, t13, t14, q2, nlit, nlt, nle, neq, nadd, nmul, nsub, if_pos, if_neg, if_true, if_false, Option.bind_some, onO_a, onO_b, onO_r, gI_a, gA_a, pF_a, pF_rl, gI_b, gA_b, pF_bP, pF_bQ, ldQ_a, upS_eq, upS_ne, updH_eq, updH_ne, Nat.add_zero, Nat.zero_add, zjn, znl]
      rfl
    · rw [passN, if_neg c]
      exact AucR_turn (AucR_passes hA)
theorem x_endMove (hG : GrpAt h g) (hga : g + 2 < a) (hN : 100 < N) {p : Nat} (hn : inN (d 0)) (hA : AucR d T R X P Q) (hR : RowOK R) (h1 : d 1 ≤ 5) (h4 : d 4 < d 1) (hp : p < d 1) (h5 : d 5 ≤ 20) (hb : ∀ k, k < d 5 → isN (d 0) (d (118 + 3 * k + 1))) (h2 : d 2 ≤ 12) (h3 : d 3 < d 2) (hc8 : ∀ q, q < d 1 → d (11 + 19 * q + 1) ≤ 8) (hm : d (11 + 19 * p) + (d (106 + d 3) + d 6) ≤ 999999) : ∃ T' R' P' Q', f_X0_endMove N a (a + (2 + 5 * p)) (aset h a g rl T R X P Q) = some (b2 (winN d), aset h a g rl T' R' X P' Q') ∧ AucR (finN d p) T' R' X P' Q' ∧ RowOK R' := by
  have hA7 := AucR_passes (x := 0) hA
  obtain ⟨⟨t8, t9, t10, t11, t12, t13, t14⟩, ⟨r27, r29, r31, r33⟩, al, ab, ap⟩ := id hA
  obtain ⟨p1, p2, p3, p4, p5⟩ := ap p hp
  have ho := winN_iff d
  have hp5 : p < 5 := by omega
  have p0 : 0 < fctN (d 0) := Nat.lt_trans Nat.zero_lt_one (fct_pos hn)
  have s1 := x_size (N := N) (h := h) (a := a) (g := g) (rl := rl) (T := upd T 13 (nI 0)) (R := R) (X := X) (P := P) (Q := Q) (r := 31) rfl
  rw [r31] at s1
  have q2 := x_turnToNext (N := N) (h := h) (a := a) (g := g) (rl := rl) (T := upd T 13 (nI 0)) (R := R) (X := X) (P := P) (Q := Q) (t := d 4) (n := d 1) (by simp (disch := omega) only [upS_ne]; exact t11) (by simp (disch := omega) only [upS_ne]; exact t9) (by omega) (by omega) h4
  by_cases c1 : d 5 = 0
  · have hw : winN d = false := by
      cases hb : winN d with
      | false => rfl
      | true => exact absurd (ho.mp hb).1 (by omega)
    refine ⟨upd (upd T 13 (nI 0)) 11 (nI ((d 4 + 1) % d 1)), R, P, Q, ?_, ?_, hR⟩
    · rw [hw]
      simp (disch := first | assumption | exact isR_27 | exact isR_29 | exact isR_31 | exact isR_33 | omega) only [f_X0_endMove, f_X0_endMove_j30, f_X0_endMove_j31, f_X0_endMove_j70, s1, q2, nlit, nlt, nle, neq, nadd, nmul, nsub, if_pos, if_neg, if_true, if_false, Option.bind_some, onO_a, onO_b, onO_r, gI_a, gA_a, pF_a, pF_rl, gI_b, gA_b, pF_bP, pF_bQ, ldQ_a, upS_eq, upS_ne, updH_eq, updH_ne, Nat.add_zero, Nat.zero_add, zjn, znl]
      rfl
    · rw [finN, if_neg (by rw [hw]; decide)]
      exact AucR_turn hA7
  · have s2 := x_productOfBids (N := N) (h := h) (a := a) (g := g) (rl := rl) (T := upd T 13 (nI 0)) (R := R) (X := X) (P := P) (Q := Q) (s := 0) (t := d 5) hG hga hN (d := upN d 7 0) hn hA7 h5 (by omega) (Nat.le_refl _) (by
      intro k hk
      rw [upN_ne (by omega), upN_ne (by omega)]
      exact hb k hk)
    rw [bidE_up (by omega) (by omega), Nat.sub_zero] at s2
    have l1 : prodF (bidE d) (d 5) 0 0 < fctN (d 0) := prodF_in hn _ _ _ _ p0 (fun j _ hj => (isN_idx hn (hb j (by omega))).1)
    have l2 := fct_le hn
    by_cases c2 : prodF (bidE d) (d 5) 0 0 = 0
    · have hw : winN d = true := ho.mpr ⟨by omega, c2⟩
      have s3 := x_at (N := N) (h := h) (a := a) (g := g) (rl := rl) (T := upd T 13 (nI 0)) (R := R) (X := X) (P := P) (Q := Q) (r := 27) (v := d 3) rfl r27 (by show d 2 ≤ 12; exact h2) h3
      rw [al (d 3) h3] at s3
      have s4 := x_receive (N := N) (h := h) (a := a) (g := g) (rl := rl) (T := upd T 13 (nI 0)) (R := R) (X := X) (P := P) (Q := Q) (x := d (11 + 19 * p)) (y := d (106 + d 3) + d 6) hp5 p1 hm
      have s5 := x_openNextLot (N := N) (h := h) (a := a) (g := g) (rl := rl) (T := upd T 13 (nI 0)) (R := R) (X := X) (P := upd P p (nI (d (11 + 19 * p) + (d (106 + d 3) + d 6)))) (Q := upd Q p (nI (d (11 + 19 * p + 2) + 1))) (k := d 3) (by simp (disch := omega) only [upS_ne]; exact t10)
      have s6 := x_turnToNext (N := N) (h := h) (a := a) (g := g) (rl := rl) (T := upd (upd (upd (upd T 13 (nI 0)) 10 (nI (d 3 + 1))) 12 (nI 0)) 13 (nI 0)) (R := lotR R) (X := X) (P := upd P p (nI (d (11 + 19 * p) + (d (106 + d 3) + d 6)))) (Q := upd Q p (nI (d (11 + 19 * p + 2) + 1))) (t := d 4) (n := d 1) (by simp (disch := omega) only [upS_ne]; exact t11) (by simp (disch := omega) only [upS_ne]; exact t9) (by omega) (by omega) h4
      refine ⟨upd (upd (upd (upd (upd T 13 (nI 0)) 10 (nI (d 3 + 1))) 12 (nI 0)) 13 (nI 0)) 11 (nI ((d 4 + 1) % d 1)), lotR R, upd P p (nI (d (11 + 19 * p) + (d (106 + d 3) + d 6))), upd Q p (nI (d (11 + 19 * p + 2) + 1)), ?_, ?_, RowOK_lot hR⟩
      · rw [hw]
        unfold lotR at s6 ⊢
        rw [c2] at s2
        simp (disch := first | assumption | exact isR_27 | exact isR_29 | exact isR_31 | exact isR_33 | omega) only [f_X0_endMove, f_X0_endMove_j30, f_X0_endMove_j31, f_X0_endMove_j70, s1, s2, s3, s4, s5, s6, t10, t12, p2, nlit, nlt, nle, neq, nadd, nmul, nsub, if_pos, if_neg, if_true, if_false, Option.bind_some, onO_a, onO_b, onO_r, gI_a, gA_a, pF_a, pF_rl, gI_b, gA_b, pF_bP, pF_bQ, ldQ_a, upS_eq, upS_ne, updH_eq, updH_ne, Nat.add_zero, Nat.zero_add, zjn, znl]
        rfl
      · rw [finN, if_pos hw, payN]
        have g1 := AucR_purse (d := upN d 7 0) (p := p) (x := d (11 + 19 * p) + (d (106 + d 3) + d 6)) hp5 (by
          intro q hq
          rw [upN_ne (by omega)]
          exact hc8 q hq) h2 h1 hA7
        have g2 := AucR_wins (p := p) (x := d (11 + 19 * p + 2) + 1) hp5 (by
          intro q hq
          have hq' : q < d 1 := by
            simp (disch := omega) only [upN_ne] at hq
            exact hq
          rw [upN_ne (by omega), upN_ne (by omega)]
          exact hc8 q hq') (by simp (disch := omega) only [upN_ne]; exact h2) (by simp (disch := omega) only [upN_ne]; exact h1) g1
        have g3 := AucR_turn (AucR_lot g2 (by simp (disch := omega) only [upN_ne]; exact h1))
        have e1 : upN d 7 0 (106 + upN d 7 0 3) = d (106 + d 3) := upN_ne (by omega)
        simp (disch := omega) only [upN_ne, upN_eq, lotN] at g3 ⊢
        exact g3
    · have hw : winN d = false := by
        cases hb : winN d with
        | false => rfl
        | true => exact absurd (ho.mp hb).2 c2
      refine ⟨upd (upd T 13 (nI 0)) 11 (nI ((d 4 + 1) % d 1)), R, P, Q, ?_, ?_, hR⟩
      · rw [hw]
        simp (disch := first | assumption | exact isR_27 | exact isR_29 | exact isR_31 | exact isR_33 | omega) only [f_X0_endMove, f_X0_endMove_j30, f_X0_endMove_j31, f_X0_endMove_j70, s1, s2, q2, nlit, nlt, nle, neq, nadd, nmul, nsub, if_pos, if_neg, if_true, if_false, Option.bind_some, onO_a, onO_b, onO_r, gI_a, gA_a, pF_a, pF_rl, gI_b, gA_b, pF_bP, pF_bQ, ldQ_a, upS_eq, upS_ne, updH_eq, updH_ne, Nat.add_zero, Nat.zero_add, zjn, znl]
        rfl
      · rw [finN, if_neg (by rw [hw]; decide)]
        exact AucR_turn hA7
end M67

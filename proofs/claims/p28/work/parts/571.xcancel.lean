def cpayD (d : Nat → Nat) (p x y : Nat) : Nat → Nat := upN (upN d (11 + 19 * p) (d (11 + 19 * p) - x)) 6 (d 6 + (x - y))
def backD (d : Nat → Nat) (o y : Nat) : Nat → Nat := upN d (11 + 19 * o) (d (11 + 19 * o) + y)
def canD (d : Nat → Nat) (c b x : Nat) : Nat → Nat := dropN (unbD (backD (cpayD d (d 4) x (d (118 + 3 * b + 2))) (d (118 + 3 * b)) (d (118 + 3 * b + 2))) b) (d 4) c
def cardE (d : Nat → Nat) (p c : Nat) : Nat := idxN (d 0) (d (11 + 19 * p + 3 + 2 * c))
section M71
variable {h h' : zH} {a g rl N : Nat} {T R : Nat → Int32} {X : Nat → Nat → Int32} {P Q : Nat → Int32} {d : Nat → Nat}
theorem x_cancelBid_ref (hG : GrpAt h' g) (hga : g + 2 < a) (hN : 100 < N) {c b x : Nat} (hD : GoodD d) (hA : AucR d T R X P Q) (h4 : d 4 < d 1) (hc : c < d (11 + 19 * d 4 + 1)) (hb : b < d 5) (hx : x < 2 ^ 31) (hpr : f_X0_priceOf N a (a + (2 + 5 * d 4)) (nI c) (aset h a g rl T R X P Q) = some (nI x, aset h' a g rl T R X P Q)) (href : mulN (cardE d (d 4) c) (bidE d b) ≠ 0 ∨ x < d (118 + 3 * b + 2) ∨ d (11 + 19 * d 4) < x) : f_X0_cancelBid N a (nI c) (nI b) (aset h a g rl T R X P Q) = some (-nI 1, aset h' a g rl T R X P Q) := by
  obtain ⟨⟨g0, g1, g2, g3, g4, g5, g7⟩, gb, gl, gp, gm⟩ := hD
  obtain ⟨⟨t8, t9, t10, t11, t12, t13, t14⟩, ⟨r27, r29, r31, r33⟩, al, ab, ap⟩ := hA
  obtain ⟨p1, p2, p3, p4, p5⟩ := ap (d 4) h4
  obtain ⟨c8, w3, ce⟩ := gp (d 4) h4
  obtain ⟨b1, b2', b3⟩ := gb b hb
  obtain ⟨x1, x2, x3⟩ := ab b hb
  have m2 := sumP_ge d (d 1) h4
  have m3 : d (11 + 19 * d 4) < 2 ^ 31 := by unfold monN at gm; omega
  have hp5 : d 4 < 5 := by omega
  have i3 := isR_e hp5
  have l3 := rlen_e hp5
  have hf := fct_le g0
  have k1 := (isN_idx g0 (ce c hc).1).1
  have k2 := (isN_idx g0 b2').1
  have k3 := mul_lt (a := cardE d (d 4) c) (b := bidE d b) (Nat.lt_of_lt_of_le k1 hf) (Nat.lt_of_lt_of_le k2 hf)
  have s1 := x_bidder (N := N) (a := a) (g := g) (rl := rl) (h := h) (T := T) (R := R) (X := X) (P := P) (Q := Q) t9 g1 h4
  have s2 := x_at (N := N) (a := a) (g := g) (rl := rl) (h := h) (T := T) (R := R) (X := X) (P := P) (Q := Q) (r := 29) (v := b) rfl r29 (show d 5 ≤ 20 from g5) hb
  have s3 := x_bidder (N := N) (a := a) (g := g) (rl := rl) (h := h) (T := T) (R := R) (X := X) (P := P) (Q := Q) t9 g1 b1
  have s4 := x_at (N := N) (a := a) (g := g) (rl := rl) (h := h') (T := T) (R := R) (X := X) (P := P) (Q := Q) (r := 33) (v := b) rfl r33 (show d 5 ≤ 20 from g5) hb
  have s5 := x_at (N := N) (a := a) (g := g) (rl := rl) (h := h') (T := T) (R := R) (X := X) (P := P) (Q := Q) (r := 3 + 5 * d 4) (v := c) i3 p3 (by omega) hc
  have s6 := x_at (N := N) (a := a) (g := g) (rl := rl) (h := h') (T := T) (R := R) (X := X) (P := P) (Q := Q) (r := 31) (v := b) rfl r31 (show d 5 ≤ 20 from g5) hb
  rw [x1] at s2
  rw [x3] at s4
  rw [(p5 c hc).1] at s5
  rw [x2] at s6
  have hG' := GrpAt_as (rl := rl) (T := T) (R := R) (X := X) (P := P) (Q := Q) hG hga
  have s7 : f_X2_times N g (nI (idxN (d 0) (d (11 + 19 * d 4 + 3 + 2 * c)))) (nI (idxN (d 0) (d (118 + 3 * b + 1)))) (aset h' a g rl T R X P Q) = some (nI (mulN (cardE d (d 4) c) (bidE d b)), aset h' a g rl T R X P Q) := x_times hG' (by omega) (Nat.lt_of_lt_of_le k1 hf) (Nat.lt_of_lt_of_le k2 hf)
  have o := fun (F : Option (Int32 × zH)) => onO_of' (F := F) hG'.1
  by_cases c1 : mulN (cardE d (d 4) c) (bidE d b) = 0
  · by_cases c2 : x < d (118 + 3 * b + 2)
    · simp (disch := first | assumption | exact isR_27 | exact isR_29 | exact isR_31 | exact isR_33 | omega) only [f_X0_cancelBid, t11, s1, s2, s3, hpr, s4, s5, s6, s7, o, c1, nlit, nlt, nle, neq, nadd, nmul, nsub, if_pos, if_neg, if_true, if_false, Option.bind_some, onO_a, onO_b, onO_r, gI_a, gA_a, pF_a, pF_rl, gI_b, gA_b, pF_bP, pF_bQ, ldQ_a, upS_eq, upS_ne, updH_eq, updH_ne, Nat.add_zero, Nat.zero_add, zjn, znl]
      simp (disch := first | assumption | exact isR_27 | exact isR_29 | exact isR_31 | exact isR_33 | omega) only [f_X0_cancelBid_j83, nlit, nlt, nle, neq, nadd, nmul, nsub, if_pos, if_neg, if_true, if_false, Option.bind_some, onO_a, onO_b, onO_r, gI_a, gA_a, pF_a, pF_rl, gI_b, gA_b, pF_bP, pF_bQ, ldQ_a, upS_eq, upS_ne, updH_eq, updH_ne, Nat.add_zero, Nat.zero_add, zjn, znl]
    · simp (disch := first | assumption | exact isR_27 | exact isR_29 | exact isR_31 | exact isR_33 | omega) only [f_X0_cancelBid, t11, s1, s2, s3, hpr, s4, s5, s6, s7, o, c1, nlit, nlt, nle, neq, nadd, nmul, nsub, if_pos, if_neg, if_true, if_false, Option.bind_some, onO_a, onO_b, onO_r, gI_a, gA_a, pF_a, pF_rl, gI_b, gA_b, pF_bP, pF_bQ, ldQ_a, upS_eq, upS_ne, updH_eq, updH_ne, Nat.add_zero, Nat.zero_add, zjn, znl]
      simp (disch := first | assumption | exact isR_27 | exact isR_29 | exact isR_31 | exact isR_33 | omega) only [f_X0_cancelBid_j83, p1, nlit, nlt, nle, neq, nadd, nmul, nsub, if_pos, if_neg, if_true, if_false, Option.bind_some, onO_a, onO_b, onO_r, gI_a, gA_a, pF_a, pF_rl, gI_b, gA_b, pF_bP, pF_bQ, ldQ_a, upS_eq, upS_ne, updH_eq, updH_ne, Nat.add_zero, Nat.zero_add, zjn, znl]
  · simp (disch := first | assumption | exact isR_27 | exact isR_29 | exact isR_31 | exact isR_33 | omega) only [f_X0_cancelBid, t11, s1, s2, s3, hpr, s4, s5, s6, s7, o, nlit, nlt, nle, neq, nadd, nmul, nsub, if_pos, if_neg, if_true, if_false, Option.bind_some, onO_a, onO_b, onO_r, gI_a, gA_a, pF_a, pF_rl, gI_b, gA_b, pF_bP, pF_bQ, ldQ_a, upS_eq, upS_ne, updH_eq, updH_ne, Nat.add_zero, Nat.zero_add, zjn, znl]
    simp (disch := first | assumption | exact isR_27 | exact isR_29 | exact isR_31 | exact isR_33 | omega) only [f_X0_cancelBid_j83, nlit, nlt, nle, neq, nadd, nmul, nsub, if_pos, if_neg, if_true, if_false, Option.bind_some, onO_a, onO_b, onO_r, gI_a, gA_a, pF_a, pF_rl, gI_b, gA_b, pF_bP, pF_bQ, ldQ_a, upS_eq, upS_ne, updH_eq, updH_ne, Nat.add_zero, Nat.zero_add, zjn, znl]
theorem x_cancelBid_ok (hG : GrpAt h' g) (hga : g + 2 < a) (hN : 100 < N) {c b x : Nat} (hD : GoodD d) (hC : GoodD (canD d c b x)) (hA : AucR d T R X P Q) (hR : RowOK R) (h4 : d 4 < d 1) (h3 : d 3 < d 2) (hc : c < d (11 + 19 * d 4 + 1)) (hb : b < d 5) (hx : x < 2 ^ 31) (hpr : f_X0_priceOf N a (a + (2 + 5 * d 4)) (nI c) (aset h a g rl T R X P Q) = some (nI x, aset h' a g rl T R X P Q)) (c1 : mulN (cardE d (d 4) c) (bidE d b) = 0) (c2 : d (118 + 3 * b + 2) ≤ x) (hpx : x ≤ d (11 + 19 * d 4)) : ∃ T' R' X' P' Q', f_X0_cancelBid N a (nI c) (nI b) (aset h a g rl T R X P Q) = some (b2 (winN (canD d c b x)), aset h' a g rl T' R' X' P' Q') ∧ AucR (finN (canD d c b x) (d 4)) T' R' X' P' Q' ∧ RowOK R' := by
  obtain ⟨⟨g0, g1, g2, g3, g4, g5, g7⟩, gb, gl, gp, gm⟩ := id hD
  obtain ⟨⟨t8, t9, t10, t11, t12, t13, t14⟩, ⟨r27, r29, r31, r33⟩, al, ab, ap⟩ := id hA
  obtain ⟨p1, p2, p3, p4, p5⟩ := ap (d 4) h4
  obtain ⟨c8, w3, ce⟩ := gp (d 4) h4
  obtain ⟨b1, b2', b3⟩ := gb b hb
  obtain ⟨x1, x2, x3⟩ := ab b hb
  have m2 := sumP_ge d (d 1) h4
  have m3 : d (11 + 19 * d 4) < 2 ^ 31 := by unfold monN at gm; omega
  have hp5 : d 4 < 5 := by omega
  have ho5 : d (118 + 3 * b) < 5 := by omega
  have hc8 : ∀ q, q < d 1 → d (11 + 19 * q + 1) ≤ 8 := fun q hq => (gp q hq).1
  have i3 := isR_e hp5
  have l3 := rlen_e hp5
  have hf := fct_le g0
  have k1 := (isN_idx g0 (ce c hc).1).1
  have k2 := (isN_idx g0 b2').1
  have s1 := x_bidder (N := N) (a := a) (g := g) (rl := rl) (h := h) (T := T) (R := R) (X := X) (P := P) (Q := Q) t9 g1 h4
  have s2 := x_at (N := N) (a := a) (g := g) (rl := rl) (h := h) (T := T) (R := R) (X := X) (P := P) (Q := Q) (r := 29) (v := b) rfl r29 (show d 5 ≤ 20 from g5) hb
  have s3 := x_bidder (N := N) (a := a) (g := g) (rl := rl) (h := h) (T := T) (R := R) (X := X) (P := P) (Q := Q) t9 g1 b1
  have s4 := x_at (N := N) (a := a) (g := g) (rl := rl) (h := h') (T := T) (R := R) (X := X) (P := P) (Q := Q) (r := 33) (v := b) rfl r33 (show d 5 ≤ 20 from g5) hb
  have s5 := x_at (N := N) (a := a) (g := g) (rl := rl) (h := h') (T := T) (R := R) (X := X) (P := P) (Q := Q) (r := 3 + 5 * d 4) (v := c) i3 p3 (by omega) hc
  have s6 := x_at (N := N) (a := a) (g := g) (rl := rl) (h := h') (T := T) (R := R) (X := X) (P := P) (Q := Q) (r := 31) (v := b) rfl r31 (show d 5 ≤ 20 from g5) hb
  rw [x1] at s2
  rw [x3] at s4
  rw [(p5 c hc).1] at s5
  rw [x2] at s6
  have hG' := GrpAt_as (rl := rl) (T := T) (R := R) (X := X) (P := P) (Q := Q) hG hga
  have s7 : f_X2_times N g (nI (idxN (d 0) (d (11 + 19 * d 4 + 3 + 2 * c)))) (nI (idxN (d 0) (d (118 + 3 * b + 1)))) (aset h' a g rl T R X P Q) = some (nI (mulN (cardE d (d 4) c) (bidE d b)), aset h' a g rl T R X P Q) := x_times hG' (by omega) (Nat.lt_of_lt_of_le k1 hf) (Nat.lt_of_lt_of_le k2 hf)
  have o := fun (F : Option (Int32 × zH)) => onO_of' (F := F) hG'.1
  -- the relation on the way
  have a1 : AucR (cpayD d (d 4) x (d (118 + 3 * b + 2))) (upd T 12 (nI (d 6 + (x - d (118 + 3 * b + 2))))) R X (upd P (d 4) (nI (d (11 + 19 * d 4) - x))) Q := AucR_pot (x := d 6 + (x - d (118 + 3 * b + 2))) (AucR_purse (p := d 4) (x := d (11 + 19 * d 4) - x) hp5 hc8 g2 g1 hA)
  have e0 : ∀ k, k ≠ 11 + 19 * d 4 → k ≠ 6 → cpayD d (d 4) x (d (118 + 3 * b + 2)) k = d k := fun k h1 h2 => by unfold cpayD; rw [upN_ne h2, upN_ne h1]
  have hc8' : ∀ q, q < cpayD d (d 4) x (d (118 + 3 * b + 2)) 1 → cpayD d (d 4) x (d (118 + 3 * b + 2)) (11 + 19 * q + 1) ≤ 8 := by
    intro q hq
    rw [e0 1 (by omega) (by omega)] at hq
    rw [e0 _ (by omega) (by omega)]
    exact hc8 q hq
  have po := (a1.2.2.2.2 (d (118 + 3 * b)) (by rw [e0 1 (by omega) (by omega)]; exact b1)).1
  have a2 := AucR_purse (p := d (118 + 3 * b)) (x := cpayD d (d 4) x (d (118 + 3 * b + 2)) (11 + 19 * d (118 + 3 * b)) + d (118 + 3 * b + 2)) ho5 hc8' (by rw [e0 2 (by omega) (by omega)]; exact g2) (by rw [e0 1 (by omega) (by omega)]; exact g1) a1
  have e1 : ∀ k, k ≠ 11 + 19 * d 4 → k ≠ 6 → k ≠ 11 + 19 * d (118 + 3 * b) → backD (cpayD d (d 4) x (d (118 + 3 * b + 2))) (d (118 + 3 * b)) (d (118 + 3 * b + 2)) k = d k := fun k h1 h2 h3 => by unfold backD; rw [upN_ne h3, e0 k h1 h2]
  have hc9 : ∀ q, q < backD (cpayD d (d 4) x (d (118 + 3 * b + 2))) (d (118 + 3 * b)) (d (118 + 3 * b + 2)) 1 → backD (cpayD d (d 4) x (d (118 + 3 * b + 2))) (d (118 + 3 * b)) (d (118 + 3 * b + 2)) (11 + 19 * q + 1) ≤ 8 := by
    intro q hq
    rw [e1 1 (by omega) (by omega) (by omega)] at hq
    rw [e1 _ (by omega) (by omega) (by omega)]
    exact hc8 q hq
  have a3 := AucR_unb (d := backD (cpayD d (d 4) x (d (118 + 3 * b + 2))) (d (118 + 3 * b)) (d (118 + 3 * b + 2))) (b := b) a2 (by rw [e1 1 (by omega) (by omega) (by omega)]; exact g1) (by rw [e1 2 (by omega) (by omega) (by omega)]; exact g2) (by rw [e1 5 (by omega) (by omega) (by omega)]; exact hb) hc9
  rw [e1 5 (by omega) (by omega) (by omega)] at a3
  have e2 : ∀ k, k < 118 → k ≠ 5 → k ≠ 11 + 19 * d 4 → k ≠ 6 → k ≠ 11 + 19 * d (118 + 3 * b) → unbD (backD (cpayD d (d 4) x (d (118 + 3 * b + 2))) (d (118 + 3 * b)) (d (118 + 3 * b + 2))) b k = d k := fun k h1 h2 h3 h4 h5 => by rw [unbD_lo h1 h2, e1 k h3 h4 h5]
  have a4 := AucR_drop (p := d 4) (c := c) a3 (by rw [e2 1 (by omega) (by omega) (by omega) (by omega) (by omega)]; exact g1) (by rw [e2 1 (by omega) (by omega) (by omega) (by omega) (by omega)]; exact h4) (by rw [e2 _ (by omega) (by omega) (by omega) (by omega) (by omega)]; exact hc) (by
    intro q hq
    rw [e2 1 (by omega) (by omega) (by omega) (by omega) (by omega)] at hq
    rw [e2 _ (by omega) (by omega) (by omega) (by omega) (by omega)]
    exact hc8 q hq)
  rw [e2 _ (by omega) (by omega) (by omega) (by omega) (by omega)] at a4
  have hR' : RowOK (dropR (bidR R (d 5 - 1)) (d 4) (d (11 + 19 * d 4 + 1) - 1)) := by
    refine RowOK_up (RowOK_up (RowOK_up (RowOK_up (RowOK_up hR ?_) ?_) ?_) ?_) ?_
    · show d 5 - 1 ≤ 20; omega
    · show d 5 - 1 ≤ 20; omega
    · show d 5 - 1 ≤ 20; omega
    · rw [rlen_e hp5]; omega
    · rw [rlen_b hp5]; omega
  have hn8 : unbD (backD (cpayD d (d 4) x (d (118 + 3 * b + 2))) (d (118 + 3 * b)) (d (118 + 3 * b + 2))) b (11 + 19 * d 4 + 1) ≤ 8 := by rw [e2 _ (by omega) (by omega) (by omega) (by omega) (by omega)]; exact c8
  have j1 : canD d c b x 1 = d 1 := by unfold canD; rw [dropN_out hn8 (by omega), e2 1 (by omega) (by omega) (by omega) (by omega) (by omega)]
  have j2 : canD d c b x 2 = d 2 := by unfold canD; rw [dropN_out hn8 (by omega), e2 2 (by omega) (by omega) (by omega) (by omega) (by omega)]
  have j3 : canD d c b x 3 = d 3 := by unfold canD; rw [dropN_out hn8 (by omega), e2 3 (by omega) (by omega) (by omega) (by omega) (by omega)]
  have jo : canD d c b x (11 + 19 * d (118 + 3 * b)) = cpayD d (d 4) x (d (118 + 3 * b + 2)) (11 + 19 * d (118 + 3 * b)) + d (118 + 3 * b + 2) := by
    unfold canD
    rw [dropN_out hn8 (by omega), unbD_lo (by omega) (by omega)]
    unfold backD
    rw [upN_eq]
  have mo := sumP_ge (canD d c b x) (canD d c b x 1) (p := d (118 + 3 * b)) (by rw [j1]; exact b1)
  have hm : cpayD d (d 4) x (d (118 + 3 * b + 2)) (11 + 19 * d (118 + 3 * b)) + d (118 + 3 * b + 2) ≤ 999999 := by
    have := hC.2.2.2.2
    unfold monN at this
    rw [jo] at mo
    omega
  have s8 := x_receive (N := N) (a := a) (g := g) (rl := rl) (h := h') (T := upd T 12 (nI (d 6 + (x - d (118 + 3 * b + 2))))) (R := R) (X := X) (P := upd P (d 4) (nI (d (11 + 19 * d 4) - x))) (Q := Q) ho5 po hm
  obtain ⟨u1, u2, u3⟩ := x_unbid (h' := h') (a := a) (g := g) (rl := rl) (X := X) (T := upd T 12 (nI (d 6 + (x - d (118 + 3 * b + 2))))) (P := upd (upd P (d 4) (nI (d (11 + 19 * d 4) - x))) (d (118 + 3 * b)) (nI (cpayD d (d 4) x (d (118 + 3 * b + 2)) (11 + 19 * d (118 + 3 * b)) + d (118 + 3 * b + 2)))) (Q := Q) hN r29 r31 r33 g5 hb
  have s9 := x_dropCard (N := N) (a := a) (g := g) (rl := rl) (h := h') (T := upd T 12 (nI (d 6 + (x - d (118 + 3 * b + 2))))) (R := bidR R (d 5 - 1)) (X := unbX X b (d 5 - 1 - b)) (P := upd (upd P (d 4) (nI (d (11 + 19 * d 4) - x))) (d (118 + 3 * b)) (nI (cpayD d (d 4) x (d (118 + 3 * b + 2)) (11 + 19 * d (118 + 3 * b)) + d (118 + 3 * b + 2)))) (Q := Q) (s := d (11 + 19 * d 4 + 1)) hN hp5 (by unfold bidR; rw [upS_ne (by omega), upS_ne (by omega), upS_ne (by omega)]; exact p3) (by unfold bidR; rw [upS_ne (by omega), upS_ne (by omega), upS_ne (by omega)]; exact p4) c8 hc
  obtain ⟨T', R', P', Q', f1, f2, f3⟩ := x_endMoveG (N := N) (a := a) (g := g) (rl := rl) (h := h') (p := d 4) hG hga hN hC a4 hR' (by rw [j2, j3]; exact h3) (by rw [j1]; exact h4)
  refine ⟨T', R', _, P', Q', ?_, f2, f3⟩
  unfold dropR dropX at f1
  simp (disch := first | assumption | exact isR_27 | exact isR_29 | exact isR_31 | exact isR_33 | omega) only [f_X0_cancelBid, t11, s1, s2, s3, hpr, s4, s5, s6, s7, o, c1, nlit, nlt, nle, neq, nadd, nmul, nsub, if_pos, if_neg, if_true, if_false, Option.bind_some, onO_a, onO_b, onO_r, gI_a, gA_a, pF_a, pF_rl, gI_b, gA_b, pF_bP, pF_bQ, ldQ_a, upS_eq, upS_ne, updH_eq, updH_ne, Nat.add_zero, Nat.zero_add, zjn, znl]
  simp (disch := first | assumption | exact isR_27 | exact isR_29 | exact isR_31 | exact isR_33 | omega) only [f_X0_cancelBid_j83, t12, p1, s8, u1, u2, u3, s9, f1, nlit, nlt, nle, neq, nadd, nmul, nsub, if_pos, if_neg, if_true, if_false, Option.bind_some, onO_a, onO_b, onO_r, gI_a, gA_a, pF_a, pF_rl, gI_b, gA_b, pF_bP, pF_bQ, ldQ_a, upS_eq, upS_ne, updH_eq, updH_ne, Nat.add_zero, Nat.zero_add, zjn, znl]
  rfl
end M71

def sumP (d : Nat → Nat) : Nat → Nat
  | 0 => 0
  | k + 1 => sumP d k + d (11 + 19 * k)
def lotS (d : Nat → Nat) (s : Nat) : Nat → Nat
  | 0 => 0
  | k + 1 => lotS d s k + d (106 + s + k)
/-- all money, that of the lots to come too -/
def monN (d : Nat → Nat) : Nat := sumP d (d 1) + d 6 + d 8 + lotS d (d 3) (d 2 - d 3)
def GoodD (d : Nat → Nat) : Prop :=
  (inN (d 0) ∧ d 1 ≤ 5 ∧ d 2 ≤ 12 ∧ d 3 ≤ d 2 ∧ (d 4 < d 1 ∨ (d 1 = 0 ∧ d 4 = 0)) ∧ d 5 ≤ 20 ∧ (d 7 < d 1 ∨ (d 1 = 0 ∧ d 7 = 0))) ∧ (∀ b, b < d 5 → d (118 + 3 * b) < d 1 ∧ isN (d 0) (d (118 + 3 * b + 1)) ∧ d (118 + 3 * b + 2) ≤ 9999) ∧ (∀ l, l < d 2 → d (106 + l) ≤ 9999) ∧ (∀ p, p < d 1 → d (11 + 19 * p + 1) ≤ 8 ∧ d (11 + 19 * p + 2) ≤ d 3 ∧ ∀ c, c < d (11 + 19 * p + 1) → isN (d 0) (d (11 + 19 * p + 3 + 2 * c)) ∧ d (11 + 19 * p + 3 + 2 * c + 1) ≤ 999) ∧ monN d ≤ 619983
theorem sumP_congr {d e : Nat → Nat} : ∀ n, (∀ k, k < n → d (11 + 19 * k) = e (11 + 19 * k)) → sumP d n = sumP e n
  | 0, _ => rfl
  | n + 1, hh => by
    show sumP d n + d (11 + 19 * n) = sumP e n + e (11 + 19 * n)
    rw [sumP_congr n (fun k hk => hh k (by omega)), hh n (by omega)]
theorem sumP_up (d : Nat → Nat) {p x : Nat} : ∀ n, p < n → sumP (upN d (11 + 19 * p) x) n + d (11 + 19 * p) = sumP d n + x
  | 0, hp => absurd hp (by omega)
  | n + 1, hp => by
    show sumP (upN d (11 + 19 * p) x) n + upN d (11 + 19 * p) x (11 + 19 * n) + d (11 + 19 * p) = sumP d n + d (11 + 19 * n) + x
    by_cases hpn : p = n
    · subst hpn
      rw [upN_eq, sumP_congr (d := upN d (11 + 19 * p) x) (e := d) p (fun k hk => upN_ne (by omega))]
      omega
    · have := sumP_up d (p := p) (x := x) n (by omega)
      rw [upN_ne (by omega)]
      omega
theorem sumP_ge (d : Nat → Nat) {p : Nat} : ∀ n, p < n → d (11 + 19 * p) ≤ sumP d n
  | 0, hp => absurd hp (by omega)
  | n + 1, hp => by
    show d (11 + 19 * p) ≤ sumP d n + d (11 + 19 * n)
    by_cases hpn : p = n
    · subst hpn; omega
    · have := sumP_ge d (p := p) n (by omega)
      omega
theorem lotS_congr {d e : Nat → Nat} {s : Nat} : ∀ n, (∀ k, k < n → d (106 + s + k) = e (106 + s + k)) → lotS d s n = lotS e s n
  | 0, _ => rfl
  | n + 1, hh => by
    show lotS d s n + d (106 + s + n) = lotS e s n + e (106 + s + n)
    rw [lotS_congr n (fun k hk => hh k (by omega)), hh n (by omega)]
theorem lotS_first (d : Nat → Nat) (s : Nat) : ∀ n, lotS d s (n + 1) = d (106 + s) + lotS d (s + 1) n
  | 0 => by
    show 0 + d (106 + s + 0) = d (106 + s) + 0
    rw [Nat.add_zero, Nat.zero_add, Nat.add_zero]
  | n + 1 => by
    show lotS d s (n + 1) + d (106 + s + (n + 1)) = d (106 + s) + (lotS d (s + 1) n + d (106 + (s + 1) + n))
    rw [lotS_first d s n, show 106 + (s + 1) + n = 106 + s + (n + 1) by omega]
    omega
/-- a lot is open: its value is part of the money -/
theorem mon_open {d : Nat → Nat} (h3 : d 3 < d 2) : monN d = sumP d (d 1) + d 6 + d 8 + d (106 + d 3) + lotS d (d 3 + 1) (d 2 - (d 3 + 1)) := by
  unfold monN
  rw [show d 2 - d 3 = (d 2 - (d 3 + 1)) + 1 by omega, lotS_first]
  omega
theorem overN_false {d : Nat → Nat} (ho : overN d = false) : 0 < d 1 ∧ d 3 < d 2 := by
  have h1 := overN_iff d
  rw [ho] at h1
  refine ⟨?_, ?_⟩
  · rcases Nat.eq_zero_or_pos (d 1) with h0 | h0
    · exact absurd (h1.mpr (Or.inl h0)) (by decide)
    · exact h0
  · rcases Nat.lt_or_ge (d 3) (d 2) with h0 | h0
    · exact h0
    · exact absurd (h1.mpr (Or.inr h0)) (by decide)
def payD (d : Nat → Nat) (p x : Nat) : Nat → Nat := upN (upN d (11 + 19 * p) (d (11 + 19 * p) - x)) 6 (d 6 + x)
def playD (d : Nat → Nat) (c x : Nat) : Nat → Nat := dropN (bidN (payD d (d 4) x) (d 4) (d (11 + 19 * d 4 + 3 + 2 * c)) x) (d 4) c
section M69
variable {h h' : zH} {a g rl N : Nat} {T R : Nat → Int32} {X : Nat → Nat → Int32} {P Q : Nat → Int32} {d : Nat → Nat}
theorem x_endMoveG (hG : GrpAt h g) (hga : g + 2 < a) (hN : 100 < N) {p : Nat} (hD : GoodD d) (hA : AucR d T R X P Q) (hR : RowOK R) (h3 : d 3 < d 2) (hp : p < d 1) : ∃ T' R' P' Q', f_X0_endMove N a (a + (2 + 5 * p)) (aset h a g rl T R X P Q) = some (b2 (winN d), aset h a g rl T' R' X P' Q') ∧ AucR (finN d p) T' R' X P' Q' ∧ RowOK R' := by
  obtain ⟨⟨g0, g1, g2, g3, g4, g5, g7⟩, gb, gl, gp, gm⟩ := hD
  have m1 := mon_open h3
  have m2 := sumP_ge d (d 1) hp
  exact x_endMove hG hga hN g0 hA hR g1 (by omega) hp g5 (fun k hk => (gb k hk).2.1) g2 h3 (fun q hq => (gp q hq).1) (by omega)
theorem x_playCard_ref {c x : Nat} (hD : GoodD d) (hA : AucR d T R X P Q) (h4 : d 4 < d 1) (hx : x < 2 ^ 31) (hpr : f_X0_priceOf N a (a + (2 + 5 * d 4)) (nI c) (aset h a g rl T R X P Q) = some (nI x, aset h' a g rl T R X P Q)) (href : d 5 = 20 ∨ d (11 + 19 * d 4) < x) : f_X0_playCard N a (nI c) (aset h a g rl T R X P Q) = some (-nI 1, aset h' a g rl T R X P Q) := by
  obtain ⟨⟨g0, g1, g2, g3, g4, g5, g7⟩, gb, gl, gp, gm⟩ := hD
  obtain ⟨⟨t8, t9, t10, t11, t12, t13, t14⟩, ⟨r27, r29, r31, r33⟩, al, ab, ap⟩ := hA
  obtain ⟨p1, p2, p3, p4, p5⟩ := ap (d 4) h4
  have m2 := sumP_ge d (d 1) h4
  have m3 : d (11 + 19 * d 4) < 2 ^ 31 := by unfold monN at gm; omega
  have s1 := x_bidder (N := N) (a := a) (g := g) (rl := rl) (h := h) (T := T) (R := R) (X := X) (P := P) (Q := Q) t9 g1 h4
  have hp5 : d 4 < 5 := by omega
  by_cases c5 : d 5 = 20
  · have s2 := x_full (N := N) (a := a) (g := g) (rl := rl) (h := h') (T := T) (R := R) (X := X) (P := P) (Q := Q) (r := 31) rfl r31 (show d 5 = rlen 31 from c5)
    simp (disch := first | assumption | exact isR_27 | exact isR_29 | exact isR_31 | exact isR_33 | omega) only [f_X0_playCard, t11, s1, hpr, s2, nlit, nlt, nle, neq, nadd, nmul, nsub, if_pos, if_neg, if_true, if_false, Option.bind_some, onO_a, onO_b, onO_r, gI_a, gA_a, pF_a, pF_rl, gI_b, gA_b, pF_bP, pF_bQ, ldQ_a, upS_eq, upS_ne, updH_eq, updH_ne, Nat.add_zero, Nat.zero_add, zjn, znl]
  · have s2 := x_nfull (N := N) (a := a) (g := g) (rl := rl) (h := h') (T := T) (R := R) (X := X) (P := P) (Q := Q) (r := 31) rfl r31 (show d 5 < 20 by omega)
    simp (disch := first | assumption | exact isR_27 | exact isR_29 | exact isR_31 | exact isR_33 | omega) only [f_X0_playCard, t11, s1, hpr, s2, p1, nlit, nlt, nle, neq, nadd, nmul, nsub, if_pos, if_neg, if_true, if_false, Option.bind_some, onO_a, onO_b, onO_r, gI_a, gA_a, pF_a, pF_rl, gI_b, gA_b, pF_bP, pF_bQ, ldQ_a, upS_eq, upS_ne, updH_eq, updH_ne, Nat.add_zero, Nat.zero_add, zjn, znl]
theorem x_playCard_ok (hG : GrpAt h' g) (hga : g + 2 < a) (hN : 100 < N) {c x : Nat} (hD : GoodD d) (hC : GoodD (playD d c x)) (hA : AucR d T R X P Q) (hR : RowOK R) (h4 : d 4 < d 1) (h3 : d 3 < d 2) (hc : c < d (11 + 19 * d 4 + 1)) (hx : x < 2 ^ 31) (hpr : f_X0_priceOf N a (a + (2 + 5 * d 4)) (nI c) (aset h a g rl T R X P Q) = some (nI x, aset h' a g rl T R X P Q)) (h5 : d 5 < 20) (hpx : x ≤ d (11 + 19 * d 4)) : ∃ T' R' X' P' Q', f_X0_playCard N a (nI c) (aset h a g rl T R X P Q) = some (b2 (winN (playD d c x)), aset h' a g rl T' R' X' P' Q') ∧ AucR (finN (playD d c x) (d 4)) T' R' X' P' Q' ∧ RowOK R' := by
  obtain ⟨⟨g0, g1, g2, g3, g4, g5, g7⟩, gb, gl, gp, gm⟩ := id hD
  obtain ⟨⟨t8, t9, t10, t11, t12, t13, t14⟩, ⟨r27, r29, r31, r33⟩, al, ab, ap⟩ := id hA
  obtain ⟨p1, p2, p3, p4, p5⟩ := ap (d 4) h4
  obtain ⟨c8, w3, ce⟩ := gp (d 4) h4
  have m2 := sumP_ge d (d 1) h4
  have m3 : d (11 + 19 * d 4) < 2 ^ 31 := by unfold monN at gm; omega
  have hp5 : d 4 < 5 := by omega
  have hc8 : ∀ q, q < d 1 → d (11 + 19 * q + 1) ≤ 8 := fun q hq => (gp q hq).1
  have s1 := x_bidder (N := N) (a := a) (g := g) (rl := rl) (h := h) (T := T) (R := R) (X := X) (P := P) (Q := Q) t9 g1 h4
  have s2 := x_nfull (N := N) (a := a) (g := g) (rl := rl) (h := h') (T := T) (R := R) (X := X) (P := P) (Q := Q) (r := 31) rfl r31 (show d 5 < 20 by omega)
  -- the states on the way
  have i3 := isR_e hp5
  have l3 := rlen_e hp5
  have s3 := x_push (N := N) (a := a) (g := g) (rl := rl) (h := h') (T := upd T 12 (nI (d 6 + x))) (R := R) (X := X) (P := upd P (d 4) (nI (d (11 + 19 * d 4) - x))) (Q := Q) (r := 29) (x := nI (d 4)) rfl r29 (show d 5 < 20 from h5)
  have s4 := x_at (N := N) (a := a) (g := g) (rl := rl) (h := h') (T := upd T 12 (nI (d 6 + x))) (R := upd R 29 (nI (d 5 + 1))) (X := updH X 29 (upd (X 29) (d 5) (nI (d 4)))) (P := upd P (d 4) (nI (d (11 + 19 * d 4) - x))) (Q := Q) (r := 3 + 5 * d 4) (s := d (11 + 19 * d 4 + 1)) (v := c) i3 (by rw [upS_ne (by omega)]; exact p3) (by omega) hc
  rw [updH_ne (by omega), (p5 c hc).1] at s4
  have s5 := x_push (N := N) (a := a) (g := g) (rl := rl) (h := h') (T := upd T 12 (nI (d 6 + x))) (R := upd R 29 (nI (d 5 + 1))) (X := updH X 29 (upd (X 29) (d 5) (nI (d 4)))) (P := upd P (d 4) (nI (d (11 + 19 * d 4) - x))) (Q := Q) (r := 31) (s := d 5) (x := nI (idxN (d 0) (d (11 + 19 * d 4 + 3 + 2 * c)))) rfl (by rw [upS_ne (by omega)]; exact r31) (show d 5 < 20 from h5)
  rw [updH_ne (show 31 ≠ 29 by omega)] at s5
  have s6 := x_push (N := N) (a := a) (g := g) (rl := rl) (h := h') (T := upd T 12 (nI (d 6 + x))) (R := upd (upd R 29 (nI (d 5 + 1))) 31 (nI (d 5 + 1))) (X := updH (updH X 29 (upd (X 29) (d 5) (nI (d 4)))) 31 (upd (X 31) (d 5) (nI (idxN (d 0) (d (11 + 19 * d 4 + 3 + 2 * c)))))) (P := upd P (d 4) (nI (d (11 + 19 * d 4) - x))) (Q := Q) (r := 33) (s := d 5) (x := nI x) rfl (by rw [upS_ne (by omega), upS_ne (by omega)]; exact r33) (show d 5 < 20 from h5)
  rw [updH_ne (show 33 ≠ 31 by omega), updH_ne (show 33 ≠ 29 by omega)] at s6
  have s7 := x_dropCard (N := N) (a := a) (g := g) (rl := rl) (h := h') (T := upd T 12 (nI (d 6 + x))) (R := bidR R (d 5 + 1)) (X := bidX X (d 5) (d 4) (idxN (d 0) (d (11 + 19 * d 4 + 3 + 2 * c))) x) (P := upd P (d 4) (nI (d (11 + 19 * d 4) - x))) (Q := Q) (s := d (11 + 19 * d 4 + 1)) hN hp5 (by unfold bidR; rw [upS_ne (by omega), upS_ne (by omega), upS_ne (by omega)]; exact p3) (by unfold bidR; rw [upS_ne (by omega), upS_ne (by omega), upS_ne (by omega)]; exact p4) c8 hc
  -- the relation on the way
  have a1 := AucR_pot (x := d 6 + x) (AucR_purse (p := d 4) (x := d (11 + 19 * d 4) - x) hp5 hc8 g2 g1 hA)
  have e0 : ∀ k, k ≠ 11 + 19 * d 4 → k ≠ 6 → payD d (d 4) x k = d k := fun k h1 h2 => by unfold payD; rw [upN_ne h2, upN_ne h1]
  have a2 := AucR_bid (d := payD d (d 4) x) (p := d 4) (v := d (11 + 19 * d 4 + 3 + 2 * c)) (x := x) a1 (by rw [e0 1 (by omega) (by omega)]; exact g1) (by rw [e0 2 (by omega) (by omega)]; exact g2) (by
    intro q hq
    rw [e0 1 (by omega) (by omega)] at hq
    rw [e0 _ (by omega) (by omega)]
    exact hc8 q hq)
  have e1 : ∀ k, k < 118 → k ≠ 5 → k ≠ 11 + 19 * d 4 → k ≠ 6 → bidN (payD d (d 4) x) (d 4) (d (11 + 19 * d 4 + 3 + 2 * c)) x k = d k := fun k h1 h2 h3 h4 => by rw [bidN_lo h1 h2, e0 k h3 h4]
  have a3 := AucR_drop (p := d 4) (c := c) a2 (by rw [e1 1 (by omega) (by omega) (by omega) (by omega)]; exact g1) (by rw [e1 1 (by omega) (by omega) (by omega) (by omega)]; exact h4) (by rw [e1 _ (by omega) (by omega) (by omega) (by omega)]; exact hc) (by
    intro q hq
    rw [e1 1 (by omega) (by omega) (by omega) (by omega)] at hq
    rw [e1 _ (by omega) (by omega) (by omega) (by omega)]
    exact hc8 q hq)
  rw [e1 _ (by omega) (by omega) (by omega) (by omega), e0 5 (by omega) (by omega), e0 0 (by omega) (by omega)] at a3
  have hR' : RowOK (dropR (bidR R (d 5 + 1)) (d 4) (d (11 + 19 * d 4 + 1) - 1)) := by
    refine RowOK_up (RowOK_up (RowOK_up (RowOK_up (RowOK_up hR ?_) ?_) ?_) ?_) ?_
    · show d 5 + 1 ≤ 20; omega
    · show d 5 + 1 ≤ 20; omega
    · show d 5 + 1 ≤ 20; omega
    · rw [rlen_e hp5]; omega
    · rw [rlen_b hp5]; omega
  have hn8 : bidN (payD d (d 4) x) (d 4) (d (11 + 19 * d 4 + 3 + 2 * c)) x (11 + 19 * d 4 + 1) ≤ 8 := by rw [e1 _ (by omega) (by omega) (by omega) (by omega)]; exact c8
  have k1 : playD d c x 1 = d 1 := by unfold playD; rw [dropN_out hn8 (by omega), e1 1 (by omega) (by omega) (by omega) (by omega)]
  have k2 : playD d c x 2 = d 2 := by unfold playD; rw [dropN_out hn8 (by omega), e1 2 (by omega) (by omega) (by omega) (by omega)]
  have k3 : playD d c x 3 = d 3 := by unfold playD; rw [dropN_out hn8 (by omega), e1 3 (by omega) (by omega) (by omega) (by omega)]
  obtain ⟨T', R', P', Q', f1, f2, f3⟩ := x_endMoveG (N := N) (a := a) (g := g) (rl := rl) (h := h') (p := d 4) hG hga hN hC a3 hR' (by rw [k2, k3]; exact h3) (by rw [k1]; exact h4)
  refine ⟨T', R', _, P', Q', ?_, f2, f3⟩
  unfold bidR bidX at s7
  unfold dropR dropX bidR bidX at f1
  simp (disch := omega) only [updH_ne] at f1
  unfold dropX bidX
  simp (disch := first | assumption | exact isR_27 | exact isR_29 | exact isR_31 | exact isR_33 | omega) only [f_X0_playCard, t11, t12, s1, hpr, s2, p1, s3, s4, s5, s6, s7, f1, nlit, nlt, nle, neq, nadd, nmul, nsub, if_pos, if_neg, if_true, if_false, Option.bind_some, onO_a, onO_b, onO_r, gI_a, gA_a, pF_a, pF_rl, gI_b, gA_b, pF_bP, pF_bQ, ldQ_a, upS_eq, upS_ne, updH_eq, updH_ne, Nat.add_zero, Nat.zero_add, zjn, znl]
end M69

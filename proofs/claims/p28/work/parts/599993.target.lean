def cset (h : zH) (r0 g rl : Nat) (V B : Nat → Int32) (cz : Int32) (C T R : Nat → Int32) (X : Nat → Nat → Int32) (P Q : Nat → Int32) : zH := rset (aset h (r0 + 4) g rl T R X P Q) r0 g V B cz C
section M99993
variable {h : zH} {a r0 g rl N : Nat} {V B C : Nat → Int32} {cz : Int32} {T R : Nat → Int32} {X : Nat → Nat → Int32} {P Q : Nat → Int32}
theorem cs_comm : cset h r0 g rl V B cz C T R X P Q = aset (rset h r0 g V B cz C) (r0 + 4) g rl T R X P Q := rs_comm (Or.inr (Nat.le_refl _))
theorem hS_cs : hS (cset h r0 g rl V B cz C T R X P Q) = hS h := rfl
theorem hN_cs : hN (cset h r0 g rl V B cz C T R X P Q) = hN h := rfl
theorem cs_out {q : Nat} (hq : q < r0 ∨ r0 + 39 ≤ q) : hM (cset h r0 g rl V B cz C T R X P Q) q = hM h q := by
  rw [cs_comm]
  exact (rs_out (by omega)).trans (rs_out (by omega))
theorem x_start : ∃ (T' R' : Nat → Int32), f_X0_start N a (aset h a g rl T R X P Q) = some (aset h a g (a + 35) T' R' X P Q) ∧ (T' 8 = nI 2 ∧ T' 9 = nI 0 ∧ T' 10 = nI 0 ∧ T' 11 = nI 0 ∧ T' 12 = nI 0 ∧ T' 13 = nI 0 ∧ T' 14 = nI 0) ∧ (R' 27 = nI 0 ∧ R' 29 = nI 0 ∧ R' 31 = nI 0 ∧ R' 33 = nI 0) ∧ (RowOK R → RowOK R') := by
  refine ⟨upd (upd (upd (upd (upd (upd (upd T 8 (nI 2)) 9 (nI 0)) 10 (nI 0)) 11 (nI 0)) 14 (nI 0)) 12 (nI 0)) 13 (nI 0), lotR (upd R 27 (nI 0)), ?_, ?_, ?_, fun hR => RowOK_lot (RowOK_up hR (Nat.zero_le _))⟩
  · unfold f_X0_start
    simp (disch := first | assumption | exact isR_27 | exact isR_29 | exact isR_31 | exact isR_33 | omega) only [nlit, Option.bind_some, onO_a, onO_r, gA_a, pF_a, pF_rl, x_clear, x_clearLot, lotR]
  · refine ⟨?_, ?_, ?_, ?_, ?_, ?_, ?_⟩ <;> simp (disch := omega) only [upS_eq, upS_ne]
  · refine ⟨?_, ?_, ?_, ?_⟩ <;> simp (disch := omega) only [lotR, upS_eq, upS_ne]
theorem x_addPlayer {n : Nat} {x : Int32} (hT : T 9 = nI n) (hn : n < 5) : f_X0_addPlayer N a x (aset h a g rl T R X P Q) = some (aset h a g rl (upd T 9 (nI (n + 1))) (upd (upd R (3 + 5 * n) (nI 0)) (5 + 5 * n) (nI 0)) X (upd P n x) (upd Q n (nI 0))) := by
  have i3 := isR_e hn
  have i5 := isR_b hn
  simp (disch := first | assumption | omega) only [f_X0_addPlayer, f_X1_start, nlit, nltF, nleF, hT, ldQ_a, Option.bind_some, onO_a, onO_b, onO_r, gI_a, gA_a, gA_b, pF_a, pF_bP, pF_bQ, x_clear, nadd, ↓reduceIte]
end M99993
def LD (e : Nat → Nat) : Prop := inN (e 0) ∧ (e 1 ≤ 5 ∧ e 2 ≤ 12) ∧ (e 3 = 0 ∧ e 4 = 0 ∧ e 5 = 0 ∧ e 6 = 0 ∧ e 7 = 0 ∧ e 8 = 0) ∧ (∀ l, l < e 2 → e (106 + l) ≤ 9999) ∧ (∀ p, p < e 1 → e (11 + 19 * p) ≤ 99999 ∧ e (11 + 19 * p + 1) ≤ 8 ∧ e (11 + 19 * p + 2) = 0 ∧ ∀ c, c < e (11 + 19 * p + 1) → isN (e 0) (e (11 + 19 * p + 3 + 2 * c)) ∧ e (11 + 19 * p + 3 + 2 * c + 1) ≤ 999) ∧ (∀ p, e 1 ≤ p → p < 5 → e (11 + 19 * p + 1) = 0 ∧ e (11 + 19 * p + 2) = 0)
theorem sumP_le {e : Nat → Nat} : ∀ n, (∀ p, p < n → e (11 + 19 * p) ≤ 99999) → sumP e n ≤ n * 99999
  | 0, _ => Nat.le_refl _
  | n + 1, hh => by
    have := sumP_le (e := e) n (fun p hp => hh p (by omega))
    have := hh n (by omega)
    show sumP e n + e (11 + 19 * n) ≤ _
    omega
theorem lotS_le {e : Nat → Nat} {s : Nat} : ∀ n, (∀ p, p < n → e (106 + s + p) ≤ 9999) → lotS e s n ≤ n * 9999
  | 0, _ => Nat.le_refl _
  | n + 1, hh => by
    have := lotS_le (e := e) (s := s) n (fun p hp => hh p (by omega))
    have := hh n (by omega)
    show lotS e s n + e (106 + s + n) ≤ _
    omega
theorem GoodD_LD {e : Nat → Nat} (hD : LD e) : GoodD e := by
  obtain ⟨h0, ⟨h1, h2⟩, ⟨h3, h4, h5, h6, h7, h8⟩, hl, hp, -⟩ := hD
  refine ⟨⟨h0, h1, h2, by omega, by omega, by omega, by omega⟩, fun b hb => absurd hb (by omega), hl, fun p hp' => ?_, ?_⟩
  · obtain ⟨p1, p2, p3, p4⟩ := hp p hp'
    exact ⟨p2, by omega, p4⟩
  · have s1 := sumP_le (e := e) (e 1) (fun p hp' => (hp p hp').1)
    have s2 := lotS_le (e := e) (s := 0) (e 2) (fun p hp' => by rw [Nat.add_zero]; exact hl p hp')
    unfold monN
    rw [h3, h6, h8, Nat.sub_zero]
    omega
theorem LD_congr {e e' : Nat → Nat} (he : ∀ j, j < 178 → j ≠ 9 → j ≠ 10 → e' j = e j) (hD : LD e) : LD e' := by
  obtain ⟨h0, ⟨h1, h2⟩, ⟨h3, h4, h5, h6, h7, h8⟩, hl, hp, hq⟩ := hD
  unfold LD
  rw [he 0 (by omega) (by omega) (by omega), he 1 (by omega) (by omega) (by omega), he 2 (by omega) (by omega) (by omega), he 3 (by omega) (by omega) (by omega), he 4 (by omega) (by omega) (by omega), he 5 (by omega) (by omega) (by omega), he 6 (by omega) (by omega) (by omega), he 7 (by omega) (by omega) (by omega), he 8 (by omega) (by omega) (by omega)]
  refine ⟨h0, ⟨h1, h2⟩, ⟨h3, h4, h5, h6, h7, h8⟩, fun l hl' => ?_, fun p hp' => ?_, fun p p1 p2 => ?_⟩
  · rw [he _ (by omega) (by omega) (by omega)]
    exact hl l hl'
  · obtain ⟨p1, p2, p3, p4⟩ := hp p hp'
    rw [he (11 + 19 * p) (by omega) (by omega) (by omega), he (11 + 19 * p + 1) (by omega) (by omega) (by omega), he (11 + 19 * p + 2) (by omega) (by omega) (by omega)]
    refine ⟨p1, p2, p3, fun c hc => ?_⟩
    rw [he _ (by omega) (by omega) (by omega), he _ (by omega) (by omega) (by omega)]
    exact p4 c hc
  · rw [he (11 + 19 * p + 1) (by omega) (by omega) (by omega), he (11 + 19 * p + 2) (by omega) (by omega) (by omega)]
    exact hq p p1 p2
theorem AucR_cg {e e' : Nat → Nat} {T R : Nat → Int32} {X : Nat → Nat → Int32} {P Q : Nat → Int32} (he : ∀ j, j < 178 → j ≠ 9 → j ≠ 10 → e' j = e j) (hD : LD e) (hA : AucR e T R X P Q) : AucR e' T R X P Q := by
  obtain ⟨h0, ⟨h1, h2⟩, ⟨h3, h4, h5, h6, h7, h8⟩, hl, hp, hq⟩ := hD
  obtain ⟨⟨t8, t9, t10, t11, t12, t13, t14⟩, ⟨r27, r29, r31, r33⟩, al, ab, ap⟩ := hA
  unfold AucR
  rw [he 0 (by omega) (by omega) (by omega), he 1 (by omega) (by omega) (by omega), he 2 (by omega) (by omega) (by omega), he 3 (by omega) (by omega) (by omega), he 4 (by omega) (by omega) (by omega), he 5 (by omega) (by omega) (by omega), he 6 (by omega) (by omega) (by omega), he 7 (by omega) (by omega) (by omega), he 8 (by omega) (by omega) (by omega)]
  refine ⟨⟨t8, t9, t10, t11, t12, t13, t14⟩, ⟨r27, r29, r31, r33⟩, fun l hl' => ?_, fun b hb => absurd hb (by omega), fun p hp' => ?_⟩
  · rw [he _ (by omega) (by omega) (by omega)]
    exact al l hl'
  · obtain ⟨p1, p2, p3, p4, p5⟩ := ap p hp'
    have := (hp p hp').2.1
    rw [he (11 + 19 * p) (by omega) (by omega) (by omega), he (11 + 19 * p + 1) (by omega) (by omega) (by omega), he (11 + 19 * p + 2) (by omega) (by omega) (by omega)]
    refine ⟨p1, p2, p3, p4, fun c hc => ?_⟩
    rw [he _ (by omega) (by omega) (by omega), he _ (by omega) (by omega) (by omega)]
    exact p5 c hc
def plN (e : Nat → Nat) (x : Nat) : Nat → Nat := upN (upN e (11 + 19 * e 1) x) 1 (e 1 + 1)
theorem plN_ne {e : Nat → Nat} {x j : Nat} (h1 : j ≠ 1) (h2 : j ≠ 11 + 19 * e 1) : plN e x j = e j := by
  unfold plN
  rw [upN_ne h1, upN_ne h2]
theorem plN_1 (e : Nat → Nat) (x : Nat) : plN e x 1 = e 1 + 1 := upN_eq _ _ _
theorem plN_p (e : Nat → Nat) (x : Nat) : plN e x (11 + 19 * e 1) = x := by
  unfold plN
  rw [upN_ne (by omega), upN_eq]
theorem LD_pl {e : Nat → Nat} {x : Nat} (hD : LD e) (h5 : e 1 < 5) (hx : x ≤ 99999) : LD (plN e x) := by
  obtain ⟨h0, ⟨h1, h2⟩, ⟨h3, h4, h5', h6, h7, h8⟩, hl, hp, hq⟩ := hD
  unfold LD
  rw [plN_1, plN_ne (j := 0) (by omega) (by omega), plN_ne (j := 2) (by omega) (by omega), plN_ne (j := 3) (by omega) (by omega), plN_ne (j := 4) (by omega) (by omega), plN_ne (j := 5) (by omega) (by omega), plN_ne (j := 6) (by omega) (by omega), plN_ne (j := 7) (by omega) (by omega), plN_ne (j := 8) (by omega) (by omega)]
  refine ⟨h0, ⟨by omega, h2⟩, ⟨h3, h4, h5', h6, h7, h8⟩, fun l hl' => ?_, fun p hp' => ?_, fun p p1 p2 => ?_⟩
  · rw [plN_ne (by omega) (by omega)]
    exact hl l hl'
  · rw [plN_ne (j := 11 + 19 * p + 1) (by omega) (by omega), plN_ne (j := 11 + 19 * p + 2) (by omega) (by omega)]
    by_cases hpe : p = e 1
    · subst hpe
      obtain ⟨q1, q2⟩ := hq (e 1) (Nat.le_refl _) h5
      rw [plN_p, q1, q2]
      exact ⟨hx, by omega, rfl, fun c hc => absurd hc (by omega)⟩
    · obtain ⟨p1, p2, p3, p4⟩ := hp p (by omega)
      rw [plN_ne (j := 11 + 19 * p) (by omega) (by omega)]
      refine ⟨p1, p2, p3, fun c hc => ?_⟩
      rw [plN_ne (by omega) (by omega), plN_ne (by omega) (by omega)]
      exact p4 c hc
  · rw [plN_ne (by omega) (by omega), plN_ne (by omega) (by omega)]
    exact hq p (by omega) p2
theorem AucR_pl {e : Nat → Nat} {x : Nat} {T R : Nat → Int32} {X : Nat → Nat → Int32} {P Q : Nat → Int32} (hD : LD e) (hA : AucR e T R X P Q) (h5 : e 1 < 5) : AucR (plN e x) (upd T 9 (nI (e 1 + 1))) (upd (upd R (3 + 5 * e 1) (nI 0)) (5 + 5 * e 1) (nI 0)) X (upd P (e 1) (nI x)) (upd Q (e 1) (nI 0)) := by
  obtain ⟨h0, ⟨h1, h2⟩, ⟨h3, h4, h5', h6, h7, h8⟩, hl, hp, hq⟩ := hD
  obtain ⟨⟨t8, t9, t10, t11, t12, t13, t14⟩, ⟨r27, r29, r31, r33⟩, al, ab, ap⟩ := hA
  unfold AucR
  rw [plN_1, plN_ne (j := 0) (by omega) (by omega), plN_ne (j := 2) (by omega) (by omega), plN_ne (j := 3) (by omega) (by omega), plN_ne (j := 4) (by omega) (by omega), plN_ne (j := 5) (by omega) (by omega), plN_ne (j := 6) (by omega) (by omega), plN_ne (j := 7) (by omega) (by omega), plN_ne (j := 8) (by omega) (by omega)]
  refine ⟨⟨?_, upS_eq _ _ _, ?_, ?_, ?_, ?_, ?_⟩, ⟨?_, ?_, ?_, ?_⟩, fun l hl' => ?_, fun b hb => absurd hb (by omega), fun p hp' => ?_⟩
  · rw [upS_ne (by omega)]; exact t8
  · rw [upS_ne (by omega)]; exact t10
  · rw [upS_ne (by omega)]; exact t11
  · rw [upS_ne (by omega)]; exact t12
  · rw [upS_ne (by omega)]; exact t13
  · rw [upS_ne (by omega)]; exact t14
  · rw [upS_ne (by omega), upS_ne (by omega)]; exact r27
  · rw [upS_ne (by omega), upS_ne (by omega)]; exact r29
  · rw [upS_ne (by omega), upS_ne (by omega)]; exact r31
  · rw [upS_ne (by omega), upS_ne (by omega)]; exact r33
  · rw [plN_ne (by omega) (by omega)]
    exact al l hl'
  · rw [plN_ne (j := 11 + 19 * p + 1) (by omega) (by omega), plN_ne (j := 11 + 19 * p + 2) (by omega) (by omega)]
    by_cases hpe : p = e 1
    · subst hpe
      obtain ⟨q1, q2⟩ := hq (e 1) (Nat.le_refl _) h5
      rw [plN_p, q1, q2]
      exact ⟨upS_eq _ _ _, upS_eq _ _ _, by rw [upS_ne (by omega), upS_eq], upS_eq _ _ _, fun c hc => absurd hc (by omega)⟩
    · obtain ⟨p1, p2, p3, p4, p5⟩ := ap p (by omega)
      have := (hp p (by omega)).2.1
      rw [plN_ne (j := 11 + 19 * p) (by omega) (by omega)]
      refine ⟨by rw [upS_ne hpe]; exact p1, by rw [upS_ne hpe]; exact p2, by rw [upS_ne (by omega), upS_ne (by omega)]; exact p3, by rw [upS_ne (by omega), upS_ne (by omega)]; exact p4, fun c hc => ?_⟩
      rw [plN_ne (by omega) (by omega), plN_ne (by omega) (by omega)]
      exact p5 c hc
theorem RowOK_pl {R : Nat → Int32} {n : Nat} (hR : RowOK R) : RowOK (upd (upd R (3 + 5 * n) (nI 0)) (5 + 5 * n) (nI 0)) := RowOK_up (RowOK_up hR (Nat.zero_le _)) (Nat.zero_le _)
def loN (e : Nat → Nat) (x : Nat) : Nat → Nat := upN (upN e (106 + e 2) x) 2 (e 2 + 1)
theorem loN_ne {e : Nat → Nat} {x j : Nat} (h1 : j ≠ 2) (h2 : j ≠ 106 + e 2) : loN e x j = e j := by
  unfold loN
  rw [upN_ne h1, upN_ne h2]
theorem loN_2 (e : Nat → Nat) (x : Nat) : loN e x 2 = e 2 + 1 := upN_eq _ _ _
theorem loN_l (e : Nat → Nat) (x : Nat) : loN e x (106 + e 2) = x := by
  unfold loN
  rw [upN_ne (by omega), upN_eq]
theorem LD_lo {e : Nat → Nat} {x : Nat} (hD : LD e) (h5 : e 2 < 12) (hx : x ≤ 9999) : LD (loN e x) := by
  obtain ⟨h0, ⟨h1, h2⟩, ⟨h3, h4, h5', h6, h7, h8⟩, hl, hp, hq⟩ := hD
  unfold LD
  rw [loN_2, loN_ne (j := 0) (by omega) (by omega), loN_ne (j := 1) (by omega) (by omega), loN_ne (j := 3) (by omega) (by omega), loN_ne (j := 4) (by omega) (by omega), loN_ne (j := 5) (by omega) (by omega), loN_ne (j := 6) (by omega) (by omega), loN_ne (j := 7) (by omega) (by omega), loN_ne (j := 8) (by omega) (by omega)]
  refine ⟨h0, ⟨h1, by omega⟩, ⟨h3, h4, h5', h6, h7, h8⟩, fun l hl' => ?_, fun p hp' => ?_, fun p p1 p2 => ?_⟩
  · by_cases hle : l = e 2
    · subst hle
      rw [loN_l]
      exact hx
    · rw [loN_ne (by omega) (by omega)]
      exact hl l (by omega)
  · obtain ⟨p1, p2, p3, p4⟩ := hp p hp'
    rw [loN_ne (j := 11 + 19 * p) (by omega) (by omega), loN_ne (j := 11 + 19 * p + 1) (by omega) (by omega), loN_ne (j := 11 + 19 * p + 2) (by omega) (by omega)]
    refine ⟨p1, p2, p3, fun c hc => ?_⟩
    rw [loN_ne (by omega) (by omega), loN_ne (by omega) (by omega)]
    exact p4 c hc
  · rw [loN_ne (by omega) (by omega), loN_ne (by omega) (by omega)]
    exact hq p p1 p2
theorem AucR_lo {e : Nat → Nat} {x : Nat} {T R : Nat → Int32} {X : Nat → Nat → Int32} {P Q : Nat → Int32} (hD : LD e) (hA : AucR e T R X P Q) (h5 : e 2 < 12) : AucR (loN e x) T (upd R 27 (nI (e 2 + 1))) (updH X 27 (upd (X 27) (e 2) (nI x))) P Q := by
  obtain ⟨h0, ⟨h1, h2⟩, ⟨h3, h4, h5', h6, h7, h8⟩, hl, hp, hq⟩ := hD
  obtain ⟨⟨t8, t9, t10, t11, t12, t13, t14⟩, ⟨r27, r29, r31, r33⟩, al, ab, ap⟩ := hA
  unfold AucR
  rw [loN_2, loN_ne (j := 0) (by omega) (by omega), loN_ne (j := 1) (by omega) (by omega), loN_ne (j := 3) (by omega) (by omega), loN_ne (j := 4) (by omega) (by omega), loN_ne (j := 5) (by omega) (by omega), loN_ne (j := 6) (by omega) (by omega), loN_ne (j := 7) (by omega) (by omega), loN_ne (j := 8) (by omega) (by omega)]
  refine ⟨⟨t8, t9, t10, t11, t12, t13, t14⟩, ⟨upS_eq _ _ _, ?_, ?_, ?_⟩, fun l hl' => ?_, fun b hb => absurd hb (by omega), fun p hp' => ?_⟩
  · rw [upS_ne (by omega)]; exact r29
  · rw [upS_ne (by omega)]; exact r31
  · rw [upS_ne (by omega)]; exact r33
  · rw [updH_eq]
    by_cases hle : l = e 2
    · subst hle
      rw [loN_l, upS_eq]
    · rw [loN_ne (by omega) (by omega), upS_ne hle]
      exact al l (by omega)
  · obtain ⟨p1, p2, p3, p4, p5⟩ := ap p hp'
    have := (hp p hp').2.1
    rw [loN_ne (j := 11 + 19 * p) (by omega) (by omega), loN_ne (j := 11 + 19 * p + 1) (by omega) (by omega), loN_ne (j := 11 + 19 * p + 2) (by omega) (by omega)]
    refine ⟨p1, p2, by rw [upS_ne (by omega)]; exact p3, by rw [upS_ne (by omega)]; exact p4, fun c hc => ?_⟩
    rw [loN_ne (by omega) (by omega), loN_ne (by omega) (by omega), updH_ne (by omega), updH_ne (by omega)]
    exact p5 c hc
theorem LD_gv {e : Nat → Nat} {p v b : Nat} (hD : LD e) (hp : p < e 1) (hn : e (11 + 19 * p + 1) < 8) (hv : isN (e 0) v) (hb : b ≤ 999) : LD (giveN e p v b) := by
  obtain ⟨h0, ⟨h1, h2⟩, ⟨h3, h4, h5', h6, h7, h8⟩, hl, hpp, hq⟩ := hD
  have lo : ∀ k, k ≤ 11 ∨ 106 ≤ k → giveN e p v b k = e k := fun k hk => giveN_out (by omega) (by omega) (by omega)
  unfold LD
  rw [lo 0 (by omega), lo 1 (by omega), lo 2 (by omega), lo 3 (by omega), lo 4 (by omega), lo 5 (by omega), lo 6 (by omega), lo 7 (by omega), lo 8 (by omega)]
  refine ⟨h0, ⟨h1, h2⟩, ⟨h3, h4, h5', h6, h7, h8⟩, fun l hl' => ?_, fun r hr => ?_, fun r p1 p2 => ?_⟩
  · rw [lo _ (by omega)]
    exact hl l hl'
  · obtain ⟨p1, p2, p3, p4⟩ := hpp r hr
    rw [giveN_out (k := 11 + 19 * r) (by omega) (by omega) (by omega), giveN_out (k := 11 + 19 * r + 2) (by omega) (by omega) (by omega)]
    by_cases hrp : r = p
    · subst hrp
      rw [giveN_n]
      refine ⟨p1, by omega, p3, fun c hc => ?_⟩
      by_cases hce : c = e (11 + 19 * r + 1)
      · subst hce
        rw [giveN_e, giveN_b]
        exact ⟨hv, hb⟩
      · rw [giveN_out (k := 11 + 19 * r + 3 + 2 * c) (by omega) (by omega) (by omega), giveN_out (k := 11 + 19 * r + 3 + 2 * c + 1) (by omega) (by omega) (by omega)]
        exact p4 c (by omega)
    · rw [giveN_out (k := 11 + 19 * r + 1) (by omega) (by omega) (by omega)]
      refine ⟨p1, p2, p3, fun c hc => ?_⟩
      rw [giveN_out (k := 11 + 19 * r + 3 + 2 * c) (by omega) (by omega) (by omega), giveN_out (k := 11 + 19 * r + 3 + 2 * c + 1) (by omega) (by omega) (by omega)]
      exact p4 c hc
  · rw [giveN_out (k := 11 + 19 * r + 1) (by omega) (by omega) (by omega), giveN_out (k := 11 + 19 * r + 2) (by omega) (by omega) (by omega)]
    exact hq r p1 p2
theorem LD_st {e0 : Nat → Nat} {n : Nat} (hz : ∀ j, j < 1378 → e0 j = 0) (hn : inN n) : LD (upN e0 0 n) := by
  have z : ∀ j, j ≠ 0 → j < 1378 → upN e0 0 n j = 0 := fun j h1 h2 => by rw [upN_ne h1]; exact hz j h2
  unfold LD
  rw [upN_eq, z 1 (by omega) (by omega), z 2 (by omega) (by omega), z 3 (by omega) (by omega), z 4 (by omega) (by omega), z 5 (by omega) (by omega), z 6 (by omega) (by omega), z 7 (by omega) (by omega), z 8 (by omega) (by omega)]
  exact ⟨hn, ⟨by omega, by omega⟩, ⟨rfl, rfl, rfl, rfl, rfl, rfl⟩, fun l hl => absurd hl (by omega), fun l hl => absurd hl (by omega), fun p _ p2 => ⟨z _ (by omega) (by omega), z _ (by omega) (by omega)⟩⟩
theorem AucR_st {e0 : Nat → Nat} {n : Nat} {T R : Nat → Int32} {X : Nat → Nat → Int32} {P Q : Nat → Int32} (hz : ∀ j, j < 1378 → e0 j = 0) (hT : T 9 = nI 0 ∧ T 10 = nI 0 ∧ T 11 = nI 0 ∧ T 12 = nI 0 ∧ T 13 = nI 0 ∧ T 14 = nI 0) (h8 : T 8 = nI n) (hR : R 27 = nI 0 ∧ R 29 = nI 0 ∧ R 31 = nI 0 ∧ R 33 = nI 0) : AucR (upN e0 0 n) T R X P Q := by
  obtain ⟨t9, t10, t11, t12, t13, t14⟩ := hT
  have z : ∀ j, j ≠ 0 → j < 1378 → upN e0 0 n j = 0 := fun j h1 h2 => by rw [upN_ne h1]; exact hz j h2
  unfold AucR
  rw [upN_eq, z 1 (by omega) (by omega), z 2 (by omega) (by omega), z 3 (by omega) (by omega), z 4 (by omega) (by omega), z 5 (by omega) (by omega), z 6 (by omega) (by omega), z 7 (by omega) (by omega), z 8 (by omega) (by omega)]
  exact ⟨⟨h8, t9, t10, t11, t12, t13, t14⟩, hR, fun l hl => absurd hl (by omega), fun l hl => absurd hl (by omega), fun l hl => absurd hl (by omega)⟩

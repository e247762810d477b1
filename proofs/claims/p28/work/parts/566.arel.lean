def AucR (d : Nat → Nat) (T R : Nat → Int32) (X : Nat → Nat → Int32) (P Q : Nat → Int32) : Prop :=
  (T 8 = nI (d 0) ∧ T 9 = nI (d 1) ∧ T 10 = nI (d 3) ∧ T 11 = nI (d 4) ∧ T 12 = nI (d 6) ∧ T 13 = nI (d 7) ∧ T 14 = nI (d 8)) ∧ (R 27 = nI (d 2) ∧ R 29 = nI (d 5) ∧ R 31 = nI (d 5) ∧ R 33 = nI (d 5)) ∧ (∀ l, l < d 2 → X 27 l = nI (d (106 + l))) ∧ (∀ b, b < d 5 → X 29 b = nI (d (118 + 3 * b)) ∧ X 31 b = nI (idxN (d 0) (d (118 + 3 * b + 1))) ∧ X 33 b = nI (d (118 + 3 * b + 2))) ∧ (∀ p, p < d 1 → P p = nI (d (11 + 19 * p)) ∧ Q p = nI (d (11 + 19 * p + 2)) ∧ R (3 + 5 * p) = nI (d (11 + 19 * p + 1)) ∧ R (5 + 5 * p) = nI (d (11 + 19 * p + 1)) ∧ ∀ c, c < d (11 + 19 * p + 1) → X (3 + 5 * p) c = nI (idxN (d 0) (d (11 + 19 * p + 3 + 2 * c))) ∧ X (5 + 5 * p) c = nI (d (11 + 19 * p + 3 + 2 * c + 1)))
theorem GrpAt_as {h : zH} {a g rl : Nat} {T R : Nat → Int32} {X : Nat → Nat → Int32} {P Q : Nat → Int32} (hG : GrpAt h g) (hga : g + 2 < a) : GrpAt (aset h a g rl T R X P Q) g := by
  obtain ⟨h1, h2, h3⟩ := hG
  obtain ⟨f2, h2, h2'⟩ := h2
  obtain ⟨f3, h3, h3'⟩ := h3
  refine ⟨?_, ⟨f2, ?_, h2'⟩, ⟨f3, ?_, h3'⟩⟩
  · rw [← h1]
    exact rs_out (by omega)
  · rw [← h2]
    exact rs_out (by omega)
  · rw [← h3]
    exact rs_out (by omega)
section M66
variable {h : zH} {a g rl N : Nat} {T R : Nat → Int32} {X : Nat → Nat → Int32} {P Q : Nat → Int32} {d : Nat → Nat}
theorem x_prod_l (hG : GrpAt h g) (hga : g + 2 < a) (hN : 5 < N) {n s t : Nat} (hn : inN n) (e : Nat → Nat) (hR : R 31 = nI s) (hs : s ≤ 20) (ht : t ≤ s) (he : ∀ k, k < t → X 31 k = nI (e k) ∧ e k < fctN n) : ∀ (r k f acc : Nat), k + r = t → r < f → acc < fctN n → f_X0_productOfBids_l5 N a (nI t) f (nI acc) (nI k) (aset h a g rl T R X P Q) = some (nI (prodF e r k acc), (aset h a g rl T R X P Q)) := by
  have hf := fct_le hn
  intro r
  induction r with
  | zero =>
    intro k f acc hk hf ha
    obtain ⟨f, rfl⟩ : ∃ m, f = m + 1 := ⟨f - 1, by omega⟩
    simp (disch := first | assumption | exact isR_27 | exact isR_29 | exact isR_31 | exact isR_33 | omega) only [f_X0_productOfBids_l5, nlit, nlt, nle, neq, nadd, nmul, nsub, if_pos, if_neg, if_true, if_false, Option.bind_some, onO_a, onO_b, onO_r, gI_a, gA_a, pF_a, pF_rl, gI_b, gA_b, pF_bP, pF_bQ, ldQ_a, upS_eq, upS_ne, updH_eq, updH_ne, Nat.add_zero, Nat.zero_add, zjn, znl]
    rfl
  | succ r ih =>
    intro k f acc hk hf ha
    obtain ⟨f, rfl⟩ : ∃ m, f = m + 1 := ⟨f - 1, by omega⟩
    obtain ⟨e1, e2⟩ := he k (by omega)
    have q1 := x_at (N := N) (h := h) (a := a) (g := g) (rl := rl) (T := T) (X := X) (P := P) (Q := Q) (r := 31) (v := k) rfl hR (by show s ≤ 20; omega) (by omega)
    have q2 := x_times (N := N) (GrpAt_as (rl := rl) (T := T) (R := R) (X := X) (P := P) (Q := Q) hG hga) hN (a := acc) (b := e k) (by omega) (by omega)
    have o := fun (F : Option (Int32 × zH)) => onO_of' (F := F) (GrpAt_as (rl := rl) (T := T) (R := R) (X := X) (P := P) (Q := Q) hG hga).1
    simp (disch := first | assumption | exact isR_27 | exact isR_29 | exact isR_31 | exact isR_33 | omega) only [f_X0_productOfBids_l5, q1, e1, o, q2, nlit, nlt, nle, neq, nadd, nmul, nsub, if_pos, if_neg, if_true, if_false, Option.bind_some, onO_a, onO_b, onO_r, gI_a, gA_a, pF_a, pF_rl, gI_b, gA_b, pF_bP, pF_bQ, ldQ_a, upS_eq, upS_ne, updH_eq, updH_ne, Nat.add_zero, Nat.zero_add, zjn, znl]
    exact ih (k + 1) f _ (by omega) (by omega) (mul_in hn ha e2)
theorem x_productOfBids (hG : GrpAt h g) (hga : g + 2 < a) (hN : 100 < N) {s t : Nat} (hn : inN (d 0)) (hA : AucR d T R X P Q) (h5 : d 5 ≤ 20) (hst : s ≤ t) (ht : t ≤ d 5) (hb : ∀ k, k < d 5 → isN (d 0) (d (118 + 3 * k + 1))) : f_X0_productOfBids N a (nI s) (nI t) (aset h a g rl T R X P Q) = some (nI (prodF (bidE d) (t - s) s 0), (aset h a g rl T R X P Q)) := by
  obtain ⟨⟨t8, t9, t10, t11, t12, t13, t14⟩, ⟨r27, r29, r31, r33⟩, al, ab, ap⟩ := hA
  exact x_prod_l (N := N) hG hga (by omega) hn (bidE d) r31 h5 ht (fun k hk => ⟨(ab k (by omega)).2.1, (isN_idx hn (hb k (by omega))).1⟩) (t - s) s N 0 (by omega) (by omega) (Nat.lt_trans Nat.zero_lt_one (fct_pos hn))
theorem AucR_turn (hA : AucR d T R X P Q) : AucR (turnN d) (upd T 11 (nI ((d 4 + 1) % d 1))) R X P Q := by
  obtain ⟨⟨t8, t9, t10, t11, t12, t13, t14⟩, ⟨r27, r29, r31, r33⟩, al, ab, ap⟩ := hA
  unfold turnN
  refine ⟨⟨?_, ?_, ?_, ?_, ?_, ?_, ?_⟩, ⟨?_, ?_, ?_, ?_⟩, ?_, ?_, ?_⟩ <;> first | (simp (disch := omega) only [upS_eq, upS_ne, upN_eq, upN_ne]; done) | (simp (disch := omega) only [upS_eq, upS_ne, upN_eq, upN_ne]; assumption) | skip
theorem AucR_passes {x : Nat} (hA : AucR d T R X P Q) : AucR (upN d 7 x) (upd T 13 (nI x)) R X P Q := by
  obtain ⟨⟨t8, t9, t10, t11, t12, t13, t14⟩, ⟨r27, r29, r31, r33⟩, al, ab, ap⟩ := hA
  refine ⟨⟨?_, ?_, ?_, ?_, ?_, ?_, ?_⟩, ⟨?_, ?_, ?_, ?_⟩, ?_, ?_, ?_⟩ <;> first | (simp (disch := omega) only [upS_eq, upS_ne, upN_eq, upN_ne]; done) | (simp (disch := omega) only [upS_eq, upS_ne, upN_eq, upN_ne]; assumption) | skip
theorem AucR_house {x : Nat} (hA : AucR d T R X P Q) : AucR (upN d 8 x) (upd T 14 (nI x)) R X P Q := by
  obtain ⟨⟨t8, t9, t10, t11, t12, t13, t14⟩, ⟨r27, r29, r31, r33⟩, al, ab, ap⟩ := hA
  refine ⟨⟨?_, ?_, ?_, ?_, ?_, ?_, ?_⟩, ⟨?_, ?_, ?_, ?_⟩, ?_, ?_, ?_⟩ <;> first | (simp (disch := omega) only [upS_eq, upS_ne, upN_eq, upN_ne]; done) | (simp (disch := omega) only [upS_eq, upS_ne, upN_eq, upN_ne]; assumption) | skip
theorem AucR_pot {x : Nat} (hA : AucR d T R X P Q) : AucR (upN d 6 x) (upd T 12 (nI x)) R X P Q := by
  obtain ⟨⟨t8, t9, t10, t11, t12, t13, t14⟩, ⟨r27, r29, r31, r33⟩, al, ab, ap⟩ := hA
  refine ⟨⟨?_, ?_, ?_, ?_, ?_, ?_, ?_⟩, ⟨?_, ?_, ?_, ?_⟩, ?_, ?_, ?_⟩ <;> first | (simp (disch := omega) only [upS_eq, upS_ne, upN_eq, upN_ne]; done) | (simp (disch := omega) only [upS_eq, upS_ne, upN_eq, upN_ne]; assumption) | skip
theorem AucR_lot (hA : AucR d T R X P Q) (h1 : d 1 ≤ 5) : AucR (lotN d) (upd (upd (upd T 10 (nI (d 3 + 1))) 12 (nI 0)) 13 (nI 0)) (upd (upd (upd R 29 (nI 0)) 31 (nI 0)) 33 (nI 0)) X P Q := by
  obtain ⟨⟨t8, t9, t10, t11, t12, t13, t14⟩, ⟨r27, r29, r31, r33⟩, al, ab, ap⟩ := hA
  unfold lotN
  refine ⟨⟨?_, ?_, ?_, ?_, ?_, ?_, ?_⟩, ⟨?_, ?_, ?_, ?_⟩, ?_, ?_, ?_⟩ <;> first | (simp (disch := omega) only [upS_eq, upS_ne, upN_eq, upN_ne]; done) | (simp (disch := omega) only [upS_eq, upS_ne, upN_eq, upN_ne]; assumption) | skip
  · intro b hb
    simp (disch := omega) only [upN_eq, upN_ne] at hb
    omega
  · intro p hp
    simp (disch := omega) only [upN_ne] at hp
    simp (disch := omega) only [upN_ne, upS_ne]
    exact ap p hp
theorem AucR_purse {p x : Nat} (hp5 : p < 5) (hc8 : ∀ q, q < d 1 → d (11 + 19 * q + 1) ≤ 8) (h2 : d 2 ≤ 12) (h1 : d 1 ≤ 5) (hA : AucR d T R X P Q) : AucR (upN d (11 + 19 * p) x) T R X (upd P p (nI x)) Q := by
  obtain ⟨⟨t8, t9, t10, t11, t12, t13, t14⟩, ⟨r27, r29, r31, r33⟩, al, ab, ap⟩ := hA
  refine ⟨⟨?_, ?_, ?_, ?_, ?_, ?_, ?_⟩, ⟨?_, ?_, ?_, ?_⟩, ?_, ?_, ?_⟩ <;> first | (simp (disch := omega) only [upS_eq, upS_ne, upN_eq, upN_ne]; done) | (simp (disch := omega) only [upS_eq, upS_ne, upN_eq, upN_ne]; assumption) | skip
  · intro q hq
    simp (disch := omega) only [upN_ne] at hq
    obtain ⟨q1, q2, q3, q4, q5⟩ := ap q hq
    have := hc8 q hq
    refine ⟨?_, ?_, ?_, ?_, ?_⟩
    · by_cases hqp : q = p
      · subst hqp
        rw [upS_eq, upN_eq]
      · rw [upS_ne hqp, upN_ne (by omega)]
        exact q1
    · rw [upN_ne (by omega)]; exact q2
    · rw [upN_ne (by omega)]; exact q3
    · rw [upN_ne (by omega)]; exact q4
    · intro c hc
      rw [upN_ne (by omega)] at hc
      rw [upN_ne (by omega), upN_ne (by omega), upN_ne (by omega)]
      exact q5 c hc
theorem AucR_wins {p x : Nat} (hp5 : p < 5) (hc8 : ∀ q, q < d 1 → d (11 + 19 * q + 1) ≤ 8) (h2 : d 2 ≤ 12) (h1 : d 1 ≤ 5) (hA : AucR d T R X P Q) : AucR (upN d (11 + 19 * p + 2) x) T R X P (upd Q p (nI x)) := by
  obtain ⟨⟨t8, t9, t10, t11, t12, t13, t14⟩, ⟨r27, r29, r31, r33⟩, al, ab, ap⟩ := hA
  refine ⟨⟨?_, ?_, ?_, ?_, ?_, ?_, ?_⟩, ⟨?_, ?_, ?_, ?_⟩, ?_, ?_, ?_⟩ <;> first | (simp (disch := omega) only [upS_eq, upS_ne, upN_eq, upN_ne]; done) | (simp (disch := omega) only [upS_eq, upS_ne, upN_eq, upN_ne]; assumption) | skip
  · intro q hq
    simp (disch := omega) only [upN_ne] at hq
    obtain ⟨q1, q2, q3, q4, q5⟩ := ap q hq
    have := hc8 q hq
    refine ⟨?_, ?_, ?_, ?_, ?_⟩
    · rw [upN_ne (by omega)]; exact q1
    · by_cases hqp : q = p
      · subst hqp
        rw [upS_eq, upN_eq]
      · rw [upS_ne hqp, upN_ne (by omega)]
        exact q2
    · rw [upN_ne (by omega)]; exact q3
    · rw [upN_ne (by omega)]; exact q4
    · intro c hc
      rw [upN_ne (by omega)] at hc
      rw [upN_ne (by omega), upN_ne (by omega), upN_ne (by omega)]
      exact q5 c hc
end M66

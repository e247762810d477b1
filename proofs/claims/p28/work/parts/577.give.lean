theorem giveN_out {d : Nat → Nat} {p e b k : Nat} (h1 : k ≠ 11 + 19 * p + 1) (h2 : k ≠ 11 + 19 * p + 3 + 2 * d (11 + 19 * p + 1)) (h3 : k ≠ 11 + 19 * p + 3 + 2 * d (11 + 19 * p + 1) + 1) : giveN d p e b k = d k := by
  unfold giveN
  rw [upN_ne h1, upN_ne h3, upN_ne h2]
theorem giveN_n (d : Nat → Nat) (p e b : Nat) : giveN d p e b (11 + 19 * p + 1) = d (11 + 19 * p + 1) + 1 := upN_eq _ _ _
theorem giveN_e (d : Nat → Nat) (p e b : Nat) : giveN d p e b (11 + 19 * p + 3 + 2 * d (11 + 19 * p + 1)) = e := by
  unfold giveN
  rw [upN_ne (by omega), upN_ne (by omega), upN_eq]
theorem giveN_b (d : Nat → Nat) (p e b : Nat) : giveN d p e b (11 + 19 * p + 3 + 2 * d (11 + 19 * p + 1) + 1) = b := by
  unfold giveN
  rw [upN_ne (by omega), upN_eq]
def giveR (R : Nat → Int32) (p n : Nat) : Nat → Int32 := upd (upd R (3 + 5 * p) (nI (n + 1))) (5 + 5 * p) (nI (n + 1))
def giveX (X : Nat → Nat → Int32) (p n : Nat) (x y : Int32) : Nat → Nat → Int32 := updH (updH X (3 + 5 * p) (upd (X (3 + 5 * p)) n x)) (5 + 5 * p) (upd (X (5 + 5 * p)) n y)
section M77
variable {h : zH} {a g rl N : Nat} {T R : Nat → Int32} {X : Nat → Nat → Int32} {P Q : Nat → Int32} {d : Nat → Nat}
theorem AucR_give {p e b : Nat} (hA : AucR d T R X P Q) (h1 : d 1 ≤ 5) (hp : p < d 1) (hn : d (11 + 19 * p + 1) < 8) (hc8 : ∀ q, q < d 1 → d (11 + 19 * q + 1) ≤ 8) : AucR (giveN d p e b) T (giveR R p (d (11 + 19 * p + 1))) (giveX X p (d (11 + 19 * p + 1)) (nI (idxN (d 0) e)) (nI b)) P Q := by
  obtain ⟨⟨t8, t9, t10, t11, t12, t13, t14⟩, ⟨r27, r29, r31, r33⟩, al, ab, ap⟩ := hA
  have e1 : ∀ k, k ≤ 11 ∨ 106 ≤ k → giveN d p e b k = d k := fun k hk => giveN_out (by omega) (by omega) (by omega)
  unfold giveR giveX
  refine ⟨⟨?_, ?_, ?_, ?_, ?_, ?_, ?_⟩, ⟨?_, ?_, ?_, ?_⟩, ?_, ?_, ?_⟩
  · rw [e1 0 (by omega)]; exact t8
  · rw [e1 1 (by omega)]; exact t9
  · rw [e1 3 (by omega)]; exact t10
  · rw [e1 4 (by omega)]; exact t11
  · rw [e1 6 (by omega)]; exact t12
  · rw [e1 7 (by omega)]; exact t13
  · rw [e1 8 (by omega)]; exact t14
  · rw [e1 2 (by omega), upS_ne (by omega), upS_ne (by omega)]; exact r27
  · rw [e1 5 (by omega), upS_ne (by omega), upS_ne (by omega)]; exact r29
  · rw [e1 5 (by omega), upS_ne (by omega), upS_ne (by omega)]; exact r31
  · rw [e1 5 (by omega), upS_ne (by omega), upS_ne (by omega)]; exact r33
  · intro l hl
    rw [e1 2 (by omega)] at hl
    rw [e1 (106 + l) (by omega), updH_ne (by omega), updH_ne (by omega)]
    exact al l hl
  · intro k hk
    rw [e1 5 (by omega)] at hk
    rw [e1 0 (by omega), e1 (118 + 3 * k) (by omega), e1 (118 + 3 * k + 1) (by omega), e1 (118 + 3 * k + 2) (by omega), updH_ne (by omega), updH_ne (by omega), updH_ne (by omega), updH_ne (by omega), updH_ne (by omega), updH_ne (by omega)]
    exact ab k hk
  · intro q hq
    rw [e1 1 (by omega)] at hq
    obtain ⟨q1, q2, q3, q4, q5⟩ := ap q hq
    have := hc8 q hq
    rw [e1 0 (by omega)]
    by_cases hqp : q = p
    · subst hqp
      rw [giveN_n, giveN_out (k := 11 + 19 * q) (by omega) (by omega) (by omega), giveN_out (k := 11 + 19 * q + 2) (by omega) (by omega) (by omega)]
      refine ⟨q1, q2, ?_, ?_, ?_⟩
      · rw [upS_ne (by omega), upS_eq]
      · rw [upS_eq]
      · intro i hi
        rw [updH_ne (show 3 + 5 * q ≠ 5 + 5 * q by omega), updH_eq, updH_eq]
        by_cases hin : i = d (11 + 19 * q + 1)
        · subst hin
          rw [upS_eq, upS_eq, giveN_e, giveN_b]
          exact ⟨rfl, rfl⟩
        · rw [upS_ne hin, upS_ne hin, giveN_out (k := 11 + 19 * q + 3 + 2 * i) (by omega) (by omega) (by omega), giveN_out (k := 11 + 19 * q + 3 + 2 * i + 1) (by omega) (by omega) (by omega)]
          exact q5 i (by omega)
    · rw [giveN_out (k := 11 + 19 * q) (by omega) (by omega) (by omega), giveN_out (k := 11 + 19 * q + 2) (by omega) (by omega) (by omega), giveN_out (k := 11 + 19 * q + 1) (by omega) (by omega) (by omega)]
      refine ⟨q1, q2, ?_, ?_, ?_⟩
      · rw [upS_ne (by omega), upS_ne (by omega)]; exact q3
      · rw [upS_ne (by omega), upS_ne (by omega)]; exact q4
      · intro i hi
        rw [giveN_out (k := 11 + 19 * q + 3 + 2 * i) (by omega) (by omega) (by omega), giveN_out (k := 11 + 19 * q + 3 + 2 * i + 1) (by omega) (by omega) (by omega), updH_ne (by omega), updH_ne (by omega), updH_ne (by omega), updH_ne (by omega)]
        exact q5 i hi
theorem GoodD_give {p e b : Nat} (hD : GoodD d) (hp : p < d 1) (hn : d (11 + 19 * p + 1) < 8) (he : isN (d 0) e) (hb : b ≤ 999) : GoodD (giveN d p e b) := by
  obtain ⟨⟨g0, g1, g2, g3, g4, g5, g7⟩, gb, gl, gp, gm⟩ := hD
  have e1 : ∀ k, k ≤ 11 ∨ 106 ≤ k → giveN d p e b k = d k := fun k hk => giveN_out (by omega) (by omega) (by omega)
  have es : ∀ q, q < d 1 → giveN d p e b (11 + 19 * q) = d (11 + 19 * q) := fun q hq => giveN_out (by omega) (by omega) (by omega)
  refine ⟨⟨?_, ?_, ?_, ?_, ?_, ?_, ?_⟩, ?_, ?_, ?_, ?_⟩
  · rw [e1 0 (by omega)]; exact g0
  · rw [e1 1 (by omega)]; exact g1
  · rw [e1 2 (by omega)]; exact g2
  · rw [e1 2 (by omega), e1 3 (by omega)]; exact g3
  · rw [e1 1 (by omega), e1 4 (by omega)]; exact g4
  · rw [e1 5 (by omega)]; exact g5
  · rw [e1 1 (by omega), e1 7 (by omega)]; exact g7
  · intro k hk
    rw [e1 5 (by omega)] at hk
    rw [e1 1 (by omega), e1 0 (by omega), e1 (118 + 3 * k) (by omega), e1 (118 + 3 * k + 1) (by omega), e1 (118 + 3 * k + 2) (by omega)]
    exact gb k hk
  · intro l hl
    rw [e1 2 (by omega)] at hl
    rw [e1 (106 + l) (by omega)]
    exact gl l hl
  · intro q hq
    rw [e1 1 (by omega)] at hq
    obtain ⟨q1, q2, q3⟩ := gp q hq
    rw [e1 3 (by omega), e1 0 (by omega)]
    by_cases hqp : q = p
    · subst hqp
      rw [giveN_n, giveN_out (k := 11 + 19 * q + 2) (by omega) (by omega) (by omega)]
      refine ⟨by omega, q2, fun i hi => ?_⟩
      by_cases hin : i = d (11 + 19 * q + 1)
      · subst hin
        rw [giveN_e, giveN_b]
        exact ⟨he, hb⟩
      · rw [giveN_out (k := 11 + 19 * q + 3 + 2 * i) (by omega) (by omega) (by omega), giveN_out (k := 11 + 19 * q + 3 + 2 * i + 1) (by omega) (by omega) (by omega)]
        exact q3 i (by omega)
    · rw [giveN_out (k := 11 + 19 * q + 2) (by omega) (by omega) (by omega), giveN_out (k := 11 + 19 * q + 1) (by omega) (by omega) (by omega)]
      refine ⟨q1, q2, fun i hi => ?_⟩
      rw [giveN_out (k := 11 + 19 * q + 3 + 2 * i) (by omega) (by omega) (by omega), giveN_out (k := 11 + 19 * q + 3 + 2 * i + 1) (by omega) (by omega) (by omega)]
      exact q3 i hi
  · unfold monN at gm ⊢
    rw [e1 1 (by omega), e1 6 (by omega), e1 8 (by omega), e1 3 (by omega), e1 2 (by omega), sumP_congr (e := d) _ es, lotS_congr (e := d) _ (fun k hk => e1 _ (by omega))]
    exact gm
end M77

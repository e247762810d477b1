theorem GoodD_mk {d e : Nat → Nat} (hD : GoodD d) (a0 : e 0 = d 0) (a1 : e 1 = d 1) (a2 : e 2 = d 2) (hl : ∀ l, l < d 2 → e (106 + l) = d (106 + l)) (hc : ∀ p k, p < d 1 → k < 16 → e (11 + 19 * p + 3 + k) = d (11 + 19 * p + 3 + k)) (hn : ∀ p, p < d 1 → e (11 + 19 * p + 1) = d (11 + 19 * p + 1)) (hw : ∀ p, p < d 1 → e (11 + 19 * p + 2) ≤ e 3) (h3 : e 3 ≤ d 2) (h4 : e 4 < d 1 ∨ (d 1 = 0 ∧ e 4 = 0)) (h7 : e 7 < d 1 ∨ (d 1 = 0 ∧ e 7 = 0)) (h5 : e 5 = 0 ∨ (e 5 = d 5 ∧ ∀ k, 118 ≤ k → k < 118 + 3 * d 5 → e k = d k)) (hm : monN e ≤ 619983) : GoodD e := by
  obtain ⟨⟨g0, g1, g2, g3, g4, g5, g7⟩, gb, gl, gp, gm⟩ := hD
  refine ⟨⟨?_, ?_, ?_, ?_, ?_, ?_, ?_⟩, ?_, ?_, ?_, hm⟩
  · rw [a0]; exact g0
  · rw [a1]; exact g1
  · rw [a2]; exact g2
  · rw [a2]; exact h3
  · rw [a1]; exact h4
  · omega
  · rw [a1]; exact h7
  · intro b hb
    rcases h5 with h5 | ⟨h5, h6⟩
    · omega
    · rw [h5] at hb
      rw [h6 (118 + 3 * b) (by omega) (by omega), h6 (118 + 3 * b + 1) (by omega) (by omega), h6 (118 + 3 * b + 2) (by omega) (by omega), a0, a1]
      exact gb b hb
  · intro l hl'
    rw [a2] at hl'
    rw [hl l hl']
    exact gl l hl'
  · intro p hp
    rw [a1] at hp
    obtain ⟨q1, q2, q3⟩ := gp p hp
    refine ⟨by rw [hn p hp]; exact q1, hw p hp, ?_⟩
    intro c hc'
    rw [hn p hp] at hc'
    have e1 := hc p (2 * c) hp (by omega)
    have e2 := hc p (2 * c + 1) hp (by omega)
    rw [← Nat.add_assoc] at e2
    rw [e1, e2, a0]
    exact q3 c hc'
theorem GoodD_turn {d : Nat → Nat} (hD : GoodD d) {x : Nat} (h1 : 0 < d 1) (hx : x < d 1) : GoodD (turnN (upN d 7 x)) := by
  have hD' := hD
  obtain ⟨⟨g0, g1, g2, g3, g4, g5, g7⟩, gb, gl, gp, gm⟩ := hD
  have hmod := Nat.mod_lt (d 4 + 1) h1
  have e : ∀ k, k ≠ 4 → k ≠ 7 → turnN (upN d 7 x) k = d k := fun k h1 h2 => by unfold turnN; rw [upN_ne h1, upN_ne h2]
  have e4 : turnN (upN d 7 x) 4 = (d 4 + 1) % d 1 := by unfold turnN; rw [upN_eq, upN_ne (by omega), upN_ne (by omega)]
  have e7 : turnN (upN d 7 x) 7 = x := by unfold turnN; rw [upN_ne (by omega), upN_eq]
  refine GoodD_mk hD' (e 0 (by omega) (by omega)) (e 1 (by omega) (by omega)) (e 2 (by omega) (by omega)) (fun l hl => e _ (by omega) (by omega)) (fun p k hp hk => e _ (by omega) (by omega)) (fun p hp => e _ (by omega) (by omega)) ?_ ?_ ?_ ?_ ?_ ?_
  · intro p hp
    rw [e _ (by omega) (by omega), e 3 (by omega) (by omega)]
    exact (gp p hp).2.1
  · rw [e 3 (by omega) (by omega)]; exact g3
  · rw [e4]; omega
  · rw [e7]; omega
  · exact Or.inr ⟨e 5 (by omega) (by omega), fun k h1 h2 => e k (by omega) (by omega)⟩
  · unfold monN at gm ⊢
    rw [e 1 (by omega) (by omega), e 6 (by omega) (by omega), e 8 (by omega) (by omega), e 3 (by omega) (by omega), e 2 (by omega) (by omega), sumP_congr (e := d) _ (fun k hk => e _ (by omega) (by omega)), lotS_congr (e := d) _ (fun k hk => e _ (by omega) (by omega))]
    exact gm
theorem GoodD_pass {d : Nat → Nat} (hD : GoodD d) (ho : overN d = false) : GoodD (passN d) := by
  have hD' := hD
  obtain ⟨⟨g0, g1, g2, g3, g4, g5, g7⟩, gb, gl, gp, gm⟩ := hD
  obtain ⟨o1, o3⟩ := overN_false ho
  have hmod := Nat.mod_lt (d 4 + 1) o1
  unfold passN
  by_cases c : d 7 + 1 = d 1
  · rw [if_pos c]
    have e : ∀ k, k ≠ 3 → k ≠ 4 → k ≠ 5 → k ≠ 6 → k ≠ 7 → k ≠ 8 → turnN (lotN (upN (upN d 7 (d 7 + 1)) 8 (d 8 + d 6))) k = d k := fun k h1 h2 h3 h4 h5 h6 => by
      unfold turnN lotN
      rw [upN_ne h2, upN_ne h4, upN_ne h5, upN_ne h3, upN_ne h1, upN_ne h6, upN_ne h5]
    have e3 : turnN (lotN (upN (upN d 7 (d 7 + 1)) 8 (d 8 + d 6))) 3 = d 3 + 1 := by
      simp (disch := omega) only [turnN, lotN, upN_eq, upN_ne]
    have e4 : turnN (lotN (upN (upN d 7 (d 7 + 1)) 8 (d 8 + d 6))) 4 = (d 4 + 1) % d 1 := by
      simp (disch := omega) only [turnN, lotN, upN_eq, upN_ne]
    have e5 : turnN (lotN (upN (upN d 7 (d 7 + 1)) 8 (d 8 + d 6))) 5 = 0 := by
      simp (disch := omega) only [turnN, lotN, upN_eq, upN_ne]
    have e6 : turnN (lotN (upN (upN d 7 (d 7 + 1)) 8 (d 8 + d 6))) 6 = 0 := by
      simp (disch := omega) only [turnN, lotN, upN_eq, upN_ne]
    have e7 : turnN (lotN (upN (upN d 7 (d 7 + 1)) 8 (d 8 + d 6))) 7 = 0 := by
      simp (disch := omega) only [turnN, lotN, upN_eq, upN_ne]
    have e8 : turnN (lotN (upN (upN d 7 (d 7 + 1)) 8 (d 8 + d 6))) 8 = d 8 + d 6 := by
      simp (disch := omega) only [turnN, lotN, upN_eq, upN_ne]
    have m1 := mon_open o3
    refine GoodD_mk hD' (e 0 (by omega) (by omega) (by omega) (by omega) (by omega) (by omega)) (e 1 (by omega) (by omega) (by omega) (by omega) (by omega) (by omega)) (e 2 (by omega) (by omega) (by omega) (by omega) (by omega) (by omega)) (fun l hl => e _ (by omega) (by omega) (by omega) (by omega) (by omega) (by omega)) (fun p k hp hk => e _ (by omega) (by omega) (by omega) (by omega) (by omega) (by omega)) (fun p hp => e _ (by omega) (by omega) (by omega) (by omega) (by omega) (by omega)) ?_ ?_ ?_ ?_ (Or.inl e5) ?_
    · intro p hp
      rw [e _ (by omega) (by omega) (by omega) (by omega) (by omega) (by omega), e3]
      have := (gp p hp).2.1
      omega
    · rw [e3]; omega
    · rw [e4]; omega
    · rw [e7]; omega
    · unfold monN
      rw [e 1 (by omega) (by omega) (by omega) (by omega) (by omega) (by omega), e6, e8, e3, e 2 (by omega) (by omega) (by omega) (by omega) (by omega) (by omega), sumP_congr (e := d) _ (fun k hk => e _ (by omega) (by omega) (by omega) (by omega) (by omega) (by omega)), lotS_congr (e := d) _ (fun k hk => e _ (by omega) (by omega) (by omega) (by omega) (by omega) (by omega))]
      omega
  · rw [if_neg c]
    exact GoodD_turn hD' o1 (by omega)
theorem GoodD_fin {d : Nat → Nat} (hD : GoodD d) (h3 : d 3 < d 2) {p : Nat} (hp : p < d 1) : GoodD (finN d p) := by
  have hD' := hD
  obtain ⟨⟨g0, g1, g2, g3, g4, g5, g7⟩, gb, gl, gp, gm⟩ := hD
  have o1 : 0 < d 1 := by omega
  have hmod := Nat.mod_lt (d 4 + 1) o1
  unfold finN
  by_cases c : winN d = true
  · rw [if_pos c]
    have e : ∀ k, k ≠ 3 → k ≠ 4 → k ≠ 5 → k ≠ 6 → k ≠ 7 → k ≠ 11 + 19 * p → k ≠ 11 + 19 * p + 2 → turnN (payN (upN d 7 0) p) k = d k := fun k h1 h2 h3 h4 h5 h6 h7 => by
      unfold turnN payN lotN
      rw [upN_ne h2, upN_ne h4, upN_ne h5, upN_ne h3, upN_ne h1, upN_ne h7, upN_ne h6, upN_ne h5]
    have e3 : turnN (payN (upN d 7 0) p) 3 = d 3 + 1 := by
      simp (disch := omega) only [turnN, payN, lotN, upN_eq, upN_ne]
    have e4 : turnN (payN (upN d 7 0) p) 4 = (d 4 + 1) % d 1 := by
      simp (disch := omega) only [turnN, payN, lotN, upN_eq, upN_ne]
    have e5 : turnN (payN (upN d 7 0) p) 5 = 0 := by
      simp (disch := omega) only [turnN, payN, lotN, upN_eq, upN_ne]
    have e6 : turnN (payN (upN d 7 0) p) 6 = 0 := by
      simp (disch := omega) only [turnN, payN, lotN, upN_eq, upN_ne]
    have e7 : turnN (payN (upN d 7 0) p) 7 = 0 := by
      simp (disch := omega) only [turnN, payN, lotN, upN_eq, upN_ne]
    have ew : turnN (payN (upN d 7 0) p) (11 + 19 * p + 2) = d (11 + 19 * p + 2) + 1 := by
      simp (disch := omega) only [turnN, payN, lotN, upN_eq, upN_ne]
    have ep : turnN (payN (upN d 7 0) p) (11 + 19 * p) = d (11 + 19 * p) + (d (106 + d 3) + d 6) := by
      simp (disch := omega) only [turnN, payN, lotN, upN_eq, upN_ne]
    have m1 := mon_open h3
    have m3 := sumP_up d (p := p) (x := d (11 + 19 * p) + (d (106 + d 3) + d 6)) (d 1) hp
    have m4 : sumP (turnN (payN (upN d 7 0) p)) (d 1) = sumP (upN d (11 + 19 * p) (d (11 + 19 * p) + (d (106 + d 3) + d 6))) (d 1) := by
      refine sumP_congr _ (fun k hk => ?_)
      by_cases hkp : k = p
      · subst hkp
        rw [ep, upN_eq]
      · rw [e _ (by omega) (by omega) (by omega) (by omega) (by omega) (by omega) (by omega), upN_ne (by omega)]
    refine GoodD_mk hD' (e 0 (by omega) (by omega) (by omega) (by omega) (by omega) (by omega) (by omega)) (e 1 (by omega) (by omega) (by omega) (by omega) (by omega) (by omega) (by omega)) (e 2 (by omega) (by omega) (by omega) (by omega) (by omega) (by omega) (by omega)) (fun l hl => e _ (by omega) (by omega) (by omega) (by omega) (by omega) (by omega) (by omega)) (fun q k hq hk => e _ (by omega) (by omega) (by omega) (by omega) (by omega) (by omega) (by omega)) (fun q hq => e _ (by omega) (by omega) (by omega) (by omega) (by omega) (by omega) (by omega)) ?_ ?_ ?_ ?_ (Or.inl e5) ?_
    · intro q hq
      have := (gp q hq).2.1
      by_cases hqp : q = p
      · subst hqp
        rw [ew, e3]
        omega
      · rw [e _ (by omega) (by omega) (by omega) (by omega) (by omega) (by omega) (by omega), e3]
        omega
    · rw [e3]; omega
    · rw [e4]; omega
    · rw [e7]; omega
    · unfold monN
      rw [e 1 (by omega) (by omega) (by omega) (by omega) (by omega) (by omega) (by omega), e6, e 8 (by omega) (by omega) (by omega) (by omega) (by omega) (by omega) (by omega), e3, e 2 (by omega) (by omega) (by omega) (by omega) (by omega) (by omega) (by omega), m4, lotS_congr (e := d) _ (fun k hk => e _ (by omega) (by omega) (by omega) (by omega) (by omega) (by omega) (by omega))]
      omega
  · rw [if_neg c]
    exact GoodD_turn hD' o1 o1

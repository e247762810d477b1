theorem GoodD_pay {d : Nat → Nat} (hD : GoodD d) {p x : Nat} (hp : p < d 1) (hx : x ≤ d (11 + 19 * p)) : GoodD (payD d p x) := by
  have hD' := hD
  obtain ⟨⟨g0, g1, g2, g3, g4, g5, g7⟩, gb, gl, gp, gm⟩ := hD
  have e : ∀ k, k ≠ 11 + 19 * p → k ≠ 6 → payD d p x k = d k := fun k h1 h2 => by unfold payD; rw [upN_ne h2, upN_ne h1]
  have e6 : payD d p x 6 = d 6 + x := by unfold payD; rw [upN_eq]
  have m3 := sumP_up d (p := p) (x := d (11 + 19 * p) - x) (d 1) hp
  have m4 : sumP (payD d p x) (d 1) = sumP (upN d (11 + 19 * p) (d (11 + 19 * p) - x)) (d 1) := sumP_congr _ (fun k hk => by unfold payD; rw [upN_ne (by omega)])
  refine GoodD_mk hD' (e 0 (by omega) (by omega)) (e 1 (by omega) (by omega)) (e 2 (by omega) (by omega)) (fun l hl => e _ (by omega) (by omega)) (fun q k hq hk => e _ (by omega) (by omega)) (fun q hq => e _ (by omega) (by omega)) ?_ ?_ ?_ ?_ (Or.inr ⟨e 5 (by omega) (by omega), fun k h1 h2 => e k (by omega) (by omega)⟩) ?_
  · intro q hq
    rw [e (11 + 19 * q + 2) (by omega) (by omega), e 3 (by omega) (by omega)]
    exact (gp q hq).2.1
  · rw [e 3 (by omega) (by omega)]; exact g3
  · rw [e 4 (by omega) (by omega)]; exact g4
  · rw [e 7 (by omega) (by omega)]; exact g7
  · unfold monN at gm ⊢
    rw [e 1 (by omega) (by omega), e6, e 8 (by omega) (by omega), e 3 (by omega) (by omega), e 2 (by omega) (by omega), m4, lotS_congr (e := d) _ (fun k hk => e _ (by omega) (by omega))]
    omega
theorem GoodD_cb {d : Nat → Nat} (hD : GoodD d) {p o x y : Nat} (hp : p < d 1) (ho : o < d 1) (hx : x ≤ d (11 + 19 * p)) (hy : y ≤ x) : GoodD (backD (cpayD d p x y) o y) := by
  have hD' := hD
  obtain ⟨⟨g0, g1, g2, g3, g4, g5, g7⟩, gb, gl, gp, gm⟩ := hD
  have e : ∀ k, k ≠ 11 + 19 * p → k ≠ 6 → k ≠ 11 + 19 * o → backD (cpayD d p x y) o y k = d k := fun k h1 h2 h3 => by unfold backD cpayD; rw [upN_ne h3, upN_ne h2, upN_ne h1]
  have e6 : backD (cpayD d p x y) o y 6 = d 6 + (x - y) := by unfold backD cpayD; rw [upN_ne (by omega), upN_eq]
  have m3 := sumP_up d (p := p) (x := d (11 + 19 * p) - x) (d 1) hp
  have m4 : sumP (cpayD d p x y) (d 1) = sumP (upN d (11 + 19 * p) (d (11 + 19 * p) - x)) (d 1) := sumP_congr _ (fun k hk => by unfold cpayD; rw [upN_ne (by omega)])
  have m5 := sumP_up (cpayD d p x y) (p := o) (x := cpayD d p x y (11 + 19 * o) + y) (d 1) ho
  have m6 : sumP (backD (cpayD d p x y) o y) (d 1) = sumP (upN (cpayD d p x y) (11 + 19 * o) (cpayD d p x y (11 + 19 * o) + y)) (d 1) := rfl
  refine GoodD_mk hD' (e 0 (by omega) (by omega) (by omega)) (e 1 (by omega) (by omega) (by omega)) (e 2 (by omega) (by omega) (by omega)) (fun l hl => e _ (by omega) (by omega) (by omega)) (fun q k hq hk => e _ (by omega) (by omega) (by omega)) (fun q hq => e _ (by omega) (by omega) (by omega)) ?_ ?_ ?_ ?_ (Or.inr ⟨e 5 (by omega) (by omega) (by omega), fun k h1 h2 => e k (by omega) (by omega) (by omega)⟩) ?_
  · intro q hq
    rw [e (11 + 19 * q + 2) (by omega) (by omega) (by omega), e 3 (by omega) (by omega) (by omega)]
    exact (gp q hq).2.1
  · rw [e 3 (by omega) (by omega) (by omega)]; exact g3
  · rw [e 4 (by omega) (by omega) (by omega)]; exact g4
  · rw [e 7 (by omega) (by omega) (by omega)]; exact g7
  · unfold monN at gm ⊢
    rw [e 1 (by omega) (by omega) (by omega), e6, e 8 (by omega) (by omega) (by omega), e 3 (by omega) (by omega) (by omega), e 2 (by omega) (by omega) (by omega), m6, lotS_congr (e := d) _ (fun k hk => e _ (by omega) (by omega) (by omega))]
    omega
theorem GoodD_bid {d : Nat → Nat} (hD : GoodD d) {p v x : Nat} (h5 : d 5 < 20) (hp : p < d 1) (hv : isN (d 0) v) (hx : x ≤ 9999) : GoodD (bidN d p v x) := by
  obtain ⟨⟨g0, g1, g2, g3, g4, g5, g7⟩, gb, gl, gp, gm⟩ := hD
  have e : ∀ k, k < 118 → k ≠ 5 → bidN d p v x k = d k := fun k h1 h2 => bidN_lo h1 h2
  obtain ⟨n1, n2, n3⟩ := bidN_new d p v x
  refine ⟨⟨?_, ?_, ?_, ?_, ?_, ?_, ?_⟩, ?_, ?_, ?_, ?_⟩
  · rw [e 0 (by omega) (by omega)]; exact g0
  · rw [e 1 (by omega) (by omega)]; exact g1
  · rw [e 2 (by omega) (by omega)]; exact g2
  · rw [e 2 (by omega) (by omega), e 3 (by omega) (by omega)]; exact g3
  · rw [e 1 (by omega) (by omega), e 4 (by omega) (by omega)]; exact g4
  · rw [bidN_5]; omega
  · rw [e 1 (by omega) (by omega), e 7 (by omega) (by omega)]; exact g7
  · intro b hb
    rw [bidN_5] at hb
    rw [e 1 (by omega) (by omega), e 0 (by omega) (by omega)]
    by_cases hbe : b = d 5
    · subst hbe
      rw [n1, n2, n3]
      exact ⟨hp, hv, hx⟩
    · rw [bidN_old (k := 118 + 3 * b) (by omega) (by omega), bidN_old (k := 118 + 3 * b + 1) (by omega) (by omega), bidN_old (k := 118 + 3 * b + 2) (by omega) (by omega)]
      exact gb b (by omega)
  · intro l hl
    rw [e 2 (by omega) (by omega)] at hl
    rw [e (106 + l) (by omega) (by omega)]
    exact gl l hl
  · intro q hq
    rw [e 1 (by omega) (by omega)] at hq
    obtain ⟨q1, q2, q3⟩ := gp q hq
    rw [e (11 + 19 * q + 1) (by omega) (by omega), e (11 + 19 * q + 2) (by omega) (by omega), e 3 (by omega) (by omega), e 0 (by omega) (by omega)]
    refine ⟨q1, q2, fun c hc => ?_⟩
    rw [e (11 + 19 * q + 3 + 2 * c) (by omega) (by omega), e (11 + 19 * q + 3 + 2 * c + 1) (by omega) (by omega)]
    exact q3 c hc
  · unfold monN at gm ⊢
    rw [e 1 (by omega) (by omega), e 6 (by omega) (by omega), e 8 (by omega) (by omega), e 3 (by omega) (by omega), e 2 (by omega) (by omega), sumP_congr (e := d) _ (fun k hk => e _ (by omega) (by omega)), lotS_congr (e := d) _ (fun k hk => e _ (by omega) (by omega))]
    exact gm
theorem GoodD_unb {d : Nat → Nat} (hD : GoodD d) {b : Nat} (hb : b < d 5) : GoodD (unbD d b) := by
  obtain ⟨⟨g0, g1, g2, g3, g4, g5, g7⟩, gb, gl, gp, gm⟩ := hD
  have e : ∀ k, k < 118 → k ≠ 5 → unbD d b k = d k := fun k h1 h2 => unbD_lo h1 h2
  refine ⟨⟨?_, ?_, ?_, ?_, ?_, ?_, ?_⟩, ?_, ?_, ?_, ?_⟩
  · rw [e 0 (by omega) (by omega)]; exact g0
  · rw [e 1 (by omega) (by omega)]; exact g1
  · rw [e 2 (by omega) (by omega)]; exact g2
  · rw [e 2 (by omega) (by omega), e 3 (by omega) (by omega)]; exact g3
  · rw [e 1 (by omega) (by omega), e 4 (by omega) (by omega)]; exact g4
  · rw [unbD_5]; omega
  · rw [e 1 (by omega) (by omega), e 7 (by omega) (by omega)]; exact g7
  · intro k hk
    rw [unbD_5] at hk
    rw [e 1 (by omega) (by omega), e 0 (by omega) (by omega)]
    by_cases hkb : k < b
    · rw [unbD_old (k := 118 + 3 * k) (by omega) (by omega), unbD_old (k := 118 + 3 * k + 1) (by omega) (by omega), unbD_old (k := 118 + 3 * k + 2) (by omega) (by omega)]
      exact gb k (by omega)
    · rw [unbD_new (k := 118 + 3 * k) (by omega) (by omega), unbD_new (k := 118 + 3 * k + 1) (by omega) (by omega), unbD_new (k := 118 + 3 * k + 2) (by omega) (by omega)]
      have q6 := gb (k + 1) (by omega)
      rw [show 118 + 3 * (k + 1) = 118 + 3 * k + 3 by omega] at q6
      exact q6
  · intro l hl
    rw [e 2 (by omega) (by omega)] at hl
    rw [e (106 + l) (by omega) (by omega)]
    exact gl l hl
  · intro q hq
    rw [e 1 (by omega) (by omega)] at hq
    obtain ⟨q1, q2, q3⟩ := gp q hq
    rw [e (11 + 19 * q + 1) (by omega) (by omega), e (11 + 19 * q + 2) (by omega) (by omega), e 3 (by omega) (by omega), e 0 (by omega) (by omega)]
    refine ⟨q1, q2, fun c hc => ?_⟩
    rw [e (11 + 19 * q + 3 + 2 * c) (by omega) (by omega), e (11 + 19 * q + 3 + 2 * c + 1) (by omega) (by omega)]
    exact q3 c hc
  · unfold monN at gm ⊢
    rw [e 1 (by omega) (by omega), e 6 (by omega) (by omega), e 8 (by omega) (by omega), e 3 (by omega) (by omega), e 2 (by omega) (by omega), sumP_congr (e := d) _ (fun k hk => e _ (by omega) (by omega)), lotS_congr (e := d) _ (fun k hk => e _ (by omega) (by omega))]
    exact gm
theorem GoodD_drop {d : Nat → Nat} (hD : GoodD d) {p c : Nat} (hp : p < d 1) (hc : c < d (11 + 19 * p + 1)) : GoodD (dropN d p c) := by
  obtain ⟨⟨g0, g1, g2, g3, g4, g5, g7⟩, gb, gl, gp, gm⟩ := hD
  have hn8 := (gp p hp).1
  have e : ∀ k, k ≤ 11 ∨ 106 ≤ k → dropN d p c k = d k := fun k hk => dropN_out hn8 (by omega)
  have es : ∀ q, q < d 1 → dropN d p c (11 + 19 * q) = d (11 + 19 * q) := fun q hq => dropN_out hn8 (by omega)
  refine ⟨⟨?_, ?_, ?_, ?_, ?_, ?_, ?_⟩, ?_, ?_, ?_, ?_⟩
  · rw [e 0 (by omega)]; exact g0
  · rw [e 1 (by omega)]; exact g1
  · rw [e 2 (by omega)]; exact g2
  · rw [e 2 (by omega), e 3 (by omega)]; exact g3
  · rw [e 1 (by omega), e 4 (by omega)]; exact g4
  · rw [e 5 (by omega)]; exact g5
  · rw [e 1 (by omega), e 7 (by omega)]; exact g7
  · intro b hb
    rw [e 5 (by omega)] at hb
    rw [e 1 (by omega), e 0 (by omega), e (118 + 3 * b) (by omega), e (118 + 3 * b + 1) (by omega), e (118 + 3 * b + 2) (by omega)]
    exact gb b hb
  · intro l hl
    rw [e 2 (by omega)] at hl
    rw [e (106 + l) (by omega)]
    exact gl l hl
  · intro q hq
    rw [e 1 (by omega)] at hq
    obtain ⟨q1, q2, q3⟩ := gp q hq
    rw [e 3 (by omega), e 0 (by omega)]
    by_cases hqp : q = p
    · subst hqp
      rw [dropN_at (k := 11 + 19 * q + 1) rfl, dropN_out (k := 11 + 19 * q + 2) hn8 (by omega)]
      refine ⟨by omega, q2, fun i hi => ?_⟩
      by_cases hic : i < c
      · rw [dropN_out (k := 11 + 19 * q + 3 + 2 * i) hn8 (by omega), dropN_out (k := 11 + 19 * q + 3 + 2 * i + 1) hn8 (by omega)]
        exact q3 i (by omega)
      · rw [dropN_in (k := 11 + 19 * q + 3 + 2 * i) (by omega) (by omega), dropN_in (k := 11 + 19 * q + 3 + 2 * i + 1) (by omega) (by omega)]
        have q6 := q3 (i + 1) (by omega)
        rw [show 11 + 19 * q + 3 + 2 * (i + 1) = 11 + 19 * q + 3 + 2 * i + 2 by omega] at q6
        exact q6
    · rw [dropN_out (k := 11 + 19 * q + 1) hn8 (by omega), dropN_out (k := 11 + 19 * q + 2) hn8 (by omega)]
      refine ⟨q1, q2, fun i hi => ?_⟩
      rw [dropN_out (k := 11 + 19 * q + 3 + 2 * i) hn8 (by omega), dropN_out (k := 11 + 19 * q + 3 + 2 * i + 1) hn8 (by omega)]
      exact q3 i hi
  · unfold monN at gm ⊢
    rw [e 1 (by omega), e 6 (by omega), e 8 (by omega), e 3 (by omega), e 2 (by omega), sumP_congr (e := d) _ es, lotS_congr (e := d) _ (fun k hk => e _ (by omega))]
    exact gm
theorem GoodD_play {d : Nat → Nat} (hD : GoodD d) {c x : Nat} (h4 : d 4 < d 1) (h5 : d 5 < 20) (hc : c < d (11 + 19 * d 4 + 1)) (hx : x ≤ d (11 + 19 * d 4)) (hx9 : x ≤ 9999) : GoodD (playD d c x) := by
  have hk := hD.2.2.2.1 (d 4) h4
  have h1 := hD.1.2.1
  have e0 : ∀ k, k ≠ 11 + 19 * d 4 → k ≠ 6 → payD d (d 4) x k = d k := fun k h1 h2 => by unfold payD; rw [upN_ne h2, upN_ne h1]
  refine GoodD_drop (GoodD_bid (GoodD_pay hD h4 hx) ?_ ?_ ?_ hx9) ?_ ?_
  · rw [e0 5 (by omega) (by omega)]; exact h5
  · rw [e0 1 (by omega) (by omega)]; exact h4
  · rw [e0 0 (by omega) (by omega)]; exact (hk.2.2 c hc).1
  · rw [bidN_lo (by omega) (by omega), e0 1 (by omega) (by omega)]; exact h4
  · rw [bidN_lo (by omega) (by omega), e0 _ (by omega) (by omega)]; exact hc
theorem GoodD_can {d : Nat → Nat} (hD : GoodD d) {c b x : Nat} (h4 : d 4 < d 1) (hb : b < d 5) (hc : c < d (11 + 19 * d 4 + 1)) (hx : x ≤ d (11 + 19 * d 4)) (hy : d (118 + 3 * b + 2) ≤ x) : GoodD (canD d c b x) := by
  have h1 := hD.1.2.1
  have h2 := (hD.2.1 b hb).1
  have e : ∀ k, k ≠ 11 + 19 * d 4 → k ≠ 6 → k ≠ 11 + 19 * d (118 + 3 * b) → backD (cpayD d (d 4) x (d (118 + 3 * b + 2))) (d (118 + 3 * b)) (d (118 + 3 * b + 2)) k = d k := fun k h1 h2 h3 => by unfold backD cpayD; rw [upN_ne h3, upN_ne h2, upN_ne h1]
  refine GoodD_drop (GoodD_unb (GoodD_cb hD h4 h2 hx hy) ?_) ?_ ?_
  · rw [e 5 (by omega) (by omega) (by omega)]; exact hb
  · rw [unbD_lo (by omega) (by omega), e 1 (by omega) (by omega) (by omega)]; exact h4
  · rw [unbD_lo (by omega) (by omega), e _ (by omega) (by omega) (by omega)]; exact hc

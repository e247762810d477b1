/-- a cell is the same, or a rule's long array before and after -/
def simc (h h' : zH) (q : Nat) : Prop := hM h' q = hM h q ∨ ∃ σ σ' : Nat → Int64, hM h q = some (.inl (1, 11, .inr (.inl σ))) ∧ hM h' q = some (.inl (1, 11, .inr (.inl σ')))
theorem simc_rf {h : zH} {q : Nat} : simc h h q := Or.inl rfl
theorem simc_tr {h h' h'' : zH} {q : Nat} (h1 : simc h h' q) (h2 : simc h' h'' q) : simc h h'' q := by
  rcases h1 with e1 | ⟨σ, σ', e1, e2⟩
  · rcases h2 with e3 | ⟨τ, τ', e3, e4⟩
    · exact Or.inl (e3.trans e1)
    · exact Or.inr ⟨τ, τ', by rw [← e1]; exact e3, e4⟩
  · rcases h2 with e3 | ⟨τ, τ', e3, e4⟩
    · exact Or.inr ⟨σ, σ', e1, e3.trans e2⟩
    · exact Or.inr ⟨σ, τ', e1, e4⟩
theorem simc_cell {h h' : zH} {q : Nat} {e : zE} (hs : simc h h' q) (hm : hM h q = some e) (hne : ∀ σ : Nat → Int64, e ≠ .inl (1, 11, .inr (.inl σ))) : hM h' q = some e := by
  rcases hs with e1 | ⟨σ, σ', e1, e2⟩
  · exact e1.trans hm
  · rw [hm] at e1
    exact absurd (Option.some.inj e1) (hne σ)
theorem simc_st {h : zH} {q r : Nat} {σ σ' : Nat → Int64} (hm : hM h r = some (.inl (1, 11, .inr (.inl σ)))) : simc h (hSt h r σ') q := by
  by_cases hq : q = r
  · subst hq
    refine Or.inr ⟨σ, σ', hm, ?_⟩
    unfold hSt
    rw [hM_put, if_pos rfl]
  · refine Or.inl ?_
    unfold hSt
    rw [hM_put, if_neg hq]
theorem acl_ne {a g rl : Nat} {T R : Nat → Int32} {X : Nat → Nat → Int32} {P Q : Nat → Int32} {j : Nat} {e : zE} (hc : acl a g rl T R X P Q j = some e) (σ : Nat → Int64) : e ≠ .inl (1, 11, .inr (.inl σ)) := by
  unfold acl at hc
  split at hc
  · cases hc; intro h; cases h
  · split at hc
    · cases hc; intro h; cases h
    · split at hc
      · cases hc; intro h; cases h
      · split at hc
        · cases hc; intro h; cases h
        · split at hc
          · cases hc; intro h; cases h
          · cases hc
section M89
variable {h h' : zH} {a g rl b0 : Nat} {T R : Nat → Int32} {X : Nat → Nat → Int32} {P Q : Nat → Int32} {d : Nat → Nat} {K : Nat} {t : Nat → Nat}
theorem as_frame (hs : (aset h a g rl T R X P Q) = h) (hf : ∀ q, a ≤ q → q < a + 35 → simc h h' q) : aset h' a g rl T R X P Q = h' := by
  refine rs_self fun j e hj hc => ?_
  refine simc_cell (hf (a + j) (by omega) (by omega)) ?_ (acl_ne hc)
  have := rs_in (h := h) (a := a) (len := 35) (j := j) (c := acl a g rl T R X P Q) hj hc
  have e2 : rs h a 35 (acl a g rl T R X P Q) = h := hs
  rw [e2] at this
  exact this
theorem RuleAt_sim (hR : RuleAt h rl K t) (hf : ∀ k, k < 3 → simc h h' (rl + k)) : RuleAt h' rl K t := by
  obtain ⟨f, σ, h1, h2, h3, h4⟩ := hR
  have c1 := simc_cell (hf 0 (by omega)) h1 (fun σ e => by cases e)
  have c2 := simc_cell (hf 1 (by omega)) h2 (fun σ e => by cases e)
  rcases hf 2 (by omega) with e | ⟨τ, τ', e1, e2⟩
  · exact ⟨f, σ, c1, c2, e.trans h3, h4⟩
  · exact ⟨f, τ', c1, c2, e2, h4⟩
/-- where rules lie -/
def RAd (b0 : Nat) (h : zH) (rl : Nat) : Prop := rl + 2 < hS h ∧ ((∃ i, i < 2 ∧ rl = b0 + 43 + 38 * i) ∨ (∃ i, i < 8 ∧ rl = b0 + 121 + 38 * i) ∨ b0 + 395 ≤ rl)
/-- the auctions' places -/
def AAd (b0 a : Nat) : Prop := (∃ i, i < 2 ∧ a = b0 + 8 + 38 * i) ∨ (∃ i, i < 8 ∧ a = b0 + 86 + 38 * i)
theorem RAd_out (hr : RAd b0 h rl) (ha : AAd b0 a) : rl + 2 < a ∨ a + 35 ≤ rl := by
  obtain ⟨h0, hr⟩ := hr
  rcases hr with ⟨i, h1, h2⟩ | ⟨i, h1, h2⟩ | h2 <;> rcases ha with ⟨j, h3, h4⟩ | ⟨j, h3, h4⟩ <;> omega
theorem RAd_mono (hr : RAd b0 h rl) (hS1 : hS h ≤ hS h') : RAd b0 h' rl := ⟨by have := hr.1; omega, hr.2⟩
def AucAt (b0 : Nat) (h : zH) (a : Nat) (d : Nat → Nat) (K : Nat) (t : Nat → Nat) : Prop := ∃ (rl : Nat) (T R : Nat → Int32) (X : Nat → Nat → Int32) (P Q : Nat → Int32), aset h a (b0 + 1) rl T R X P Q = h ∧ AucR d T R X P Q ∧ RowOK R ∧ RuleAt h rl K t ∧ RAd b0 h rl
def AucRaw (b0 : Nat) (h : zH) (a : Nat) : Prop := ∃ (rl : Nat) (T R : Nat → Int32) (X : Nat → Nat → Int32) (P Q : Nat → Int32), aset h a (b0 + 1) rl T R X P Q = h ∧ RowOK R
theorem AucAt_raw (hA : AucAt b0 h a d K t) : AucRaw b0 h a := by
  obtain ⟨rl, T, R, X, P, Q, h1, -, h2, -⟩ := hA
  exact ⟨rl, T, R, X, P, Q, h1, h2⟩
theorem AucRaw_sim (hA : AucRaw b0 h a) (hf : ∀ q, a ≤ q → q < a + 35 → simc h h' q) : AucRaw b0 h' a := by
  obtain ⟨rl, T, R, X, P, Q, h1, h2⟩ := hA
  exact ⟨rl, T, R, X, P, Q, as_frame h1 hf, h2⟩
theorem AucAt_sim (hA : AucAt b0 h a d K t) (hS1 : hS h ≤ hS h') (hf : ∀ q, a ≤ q → q < a + 35 → simc h h' q) (hr : ∀ rl k, RAd b0 h rl → k < 3 → simc h h' (rl + k)) : AucAt b0 h' a d K t := by
  obtain ⟨rl, T, R, X, P, Q, h1, h2, h3, h4, h5⟩ := hA
  exact ⟨rl, T, R, X, P, Q, as_frame h1 hf, h2, h3, RuleAt_sim h4 (fun k hk => hr rl k h5 hk), RAd_mono h5 hS1⟩
theorem sumP_eq {e : Nat → Nat} (he : ∀ i, i < 1378 → e i = d i) : ∀ n, n ≤ 5 → sumP e n = sumP d n := fun n hn => sumP_congr n (fun k hk => he _ (by omega))
theorem GoodD_eq {e : Nat → Nat} (he : ∀ i, i < 1378 → e i = d i) (hD : GoodD d) : GoodD e := by
  obtain ⟨⟨g0, g1, g2, g3, g4, g5, g7⟩, gb, gl, gp, gm⟩ := hD
  have e0 := he 0 (by omega)
  have e1 := he 1 (by omega)
  have e2 := he 2 (by omega)
  have e3 := he 3 (by omega)
  have e4 := he 4 (by omega)
  have e5 := he 5 (by omega)
  have e6 := he 6 (by omega)
  have e7 := he 7 (by omega)
  have e8 := he 8 (by omega)
  unfold GoodD
  rw [e0, e1, e2, e3, e4, e5, e7]
  refine ⟨⟨g0, g1, g2, g3, g4, g5, g7⟩, fun b hb => ?_, fun l hl => ?_, fun p hp => ?_, ?_⟩
  · rw [he _ (by omega), he _ (by omega), he _ (by omega)]
    exact gb b hb
  · rw [he _ (by omega)]
    exact gl l hl
  · obtain ⟨p1, p2, p3⟩ := gp p hp
    rw [he (11 + 19 * p + 1) (by omega), he (11 + 19 * p + 2) (by omega)]
    refine ⟨p1, p2, fun c hc => ?_⟩
    rw [he _ (by omega), he _ (by omega)]
    exact p3 c hc
  · unfold monN at gm ⊢
    rw [e1, e2, e3, e6, e8, sumP_eq he _ g1, lotS_congr (e := d) _ (fun k hk => he _ (by omega))]
    exact gm
theorem CodeR_eq {e : Nat → Nat} (he : ∀ i, i < 1378 → e i = d i) (hC : CodeR d K t) : CodeR e K t := by
  obtain ⟨h1, h2, h3, h4⟩ := hC
  refine ⟨h1, h2, h3, ?_⟩
  rw [he 10 (by omega)]
  rcases h4 with h4 | ⟨a, b⟩
  · exact Or.inl h4
  · refine Or.inr ⟨a, fun k hk => ?_⟩
    have m1 := h2.2
    have m2 := mPos_mono t (k := k + 1) K (by omega)
    by_cases ho : 10004 ≤ t k
    · rw [mPos_op ho] at m2
      refine ⟨fun _ => ?_, fun h => absurd h (by omega), fun _ h => absurd h (by omega)⟩
      rw [he _ (by omega)]
      exact (b k hk).1 ho
    · rw [mPos_va (by omega)] at m2
      rw [he _ (by omega), he _ (by omega)]
      exact b k hk
theorem AucR_eq {e : Nat → Nat} (he : ∀ i, i < 1378 → e i = d i) (hD : GoodD d) (hA : AucR d T R X P Q) : AucR e T R X P Q := by
  obtain ⟨⟨g0, g1, g2, g3, g4, g5, g7⟩, gb, gl, gp, gm⟩ := hD
  obtain ⟨⟨t8, t9, t10, t11, t12, t13, t14⟩, ⟨r27, r29, r31, r33⟩, al, ab, ap⟩ := hA
  unfold AucR
  rw [he 0 (by omega), he 1 (by omega), he 2 (by omega), he 3 (by omega), he 4 (by omega), he 5 (by omega), he 6 (by omega), he 7 (by omega), he 8 (by omega)]
  refine ⟨⟨t8, t9, t10, t11, t12, t13, t14⟩, ⟨r27, r29, r31, r33⟩, fun l hl => ?_, fun b hb => ?_, fun p hp => ?_⟩
  · rw [he _ (by omega)]
    exact al l hl
  · rw [he _ (by omega), he _ (by omega), he _ (by omega)]
    exact ab b hb
  · obtain ⟨p1, p2, p3, p4, p5⟩ := ap p hp
    have := (gp p hp).1
    rw [he (11 + 19 * p + 1) (by omega), he (11 + 19 * p + 2) (by omega), he (11 + 19 * p) (by omega)]
    refine ⟨p1, p2, p3, p4, fun c hc => ?_⟩
    rw [he _ (by omega), he _ (by omega)]
    exact p5 c hc
theorem AucAt_eq {e : Nat → Nat} (he : ∀ i, i < 1378 → e i = d i) (hD : GoodD d) (hA : AucAt b0 h a d K t) : AucAt b0 h a e K t := by
  obtain ⟨rl, T, R, X, P, Q, h1, h2, h3⟩ := hA
  exact ⟨rl, T, R, X, P, Q, h1, AucR_eq he hD h2, h3⟩
end M89

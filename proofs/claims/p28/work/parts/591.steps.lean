/-- only the auction in play, and rules' stacks, were touched -/
def FrA (b0 : Nat) (h h' : zH) : Prop := (∀ q, q < b0 + 46 ∨ b0 + 81 ≤ q → simc h h' q) ∧ hS h' = hS h ∧ hN h' = hN h ∧ ∀ q, b0 + 395 ≤ q → q < b0 + 395 → hM h' q = hM h q
/-- codes are kept -/
def smC (d e : Nat → Nat) : Prop := e 10 = d 10 ∧ ∀ j, 178 ≤ j → e j = d j
theorem CodeR_sm {d e : Nat → Nat} {K : Nat} {t : Nat → Nat} (hs : smC d e) (hC : CodeR d K t) : CodeR e K t := CodeR_congr hs.1 hs.2 hC
theorem smC_rf (d : Nat → Nat) : smC d d := ⟨rfl, fun _ _ => rfl⟩
theorem smC_tr {d e f : Nat → Nat} (h1 : smC d e) (h2 : smC e f) : smC d f := ⟨h2.1.trans h1.1, fun j hj => (h2.2 j hj).trans (h1.2 j hj)⟩
theorem smC_up {d : Nat → Nat} {k x : Nat} (hk : k ≠ 10) (hk2 : k < 178) : smC d (upN d k x) := ⟨upN_ne (by omega), fun j hj => upN_ne (by omega)⟩
theorem smC_sh {d : Nat → Nat} {s r o : Nat} (h1 : 11 ≤ s) (h2 : s + r ≤ 178) : smC d (shN d s r o) := ⟨shN_out (by omega), fun j hj => shN_out (by omega)⟩
theorem smC_drop {d : Nat → Nat} {p c : Nat} (hp : p < 5) (hn : d (11 + 19 * p + 1) ≤ 8) : smC d (dropN d p c) := by
  unfold dropN
  refine smC_tr (smC_up (k := 11 + 19 * p + 1) (x := d (11 + 19 * p + 1) - 1) (by omega) (by omega)) ?_
  by_cases hc : c ≤ 8
  · exact smC_sh (by omega) (by omega)
  · rw [show 2 * (d (11 + 19 * p + 1) - 1 - c) = 0 by omega, shN_0]
    exact smC_rf _
theorem smC_bid {d : Nat → Nat} {p v x : Nat} (h5 : d 5 < 20) : smC d (bidN d p v x) := smC_tr (smC_tr (smC_tr (smC_up (by omega) (by omega)) (smC_up (by omega) (by omega))) (smC_up (by omega) (by omega))) (smC_up (by omega) (by omega))
theorem smC_pay {d : Nat → Nat} {p x : Nat} (hp : p < 5) : smC d (payD d p x) := smC_tr (smC_up (by omega) (by omega)) (smC_up (by omega) (by omega))
theorem smC_turn (d : Nat → Nat) : smC d (turnN d) := smC_up (by omega) (by omega)
theorem smC_lot (d : Nat → Nat) : smC d (lotN d) := smC_tr (smC_tr (smC_tr (smC_up (by omega) (by omega)) (smC_up (by omega) (by omega))) (smC_up (by omega) (by omega))) (smC_up (by omega) (by omega))
theorem smC_fin {d : Nat → Nat} {p : Nat} (hp : p < 5) : smC d (finN d p) := by
  unfold finN
  split
  · exact smC_tr (smC_tr (smC_up (by omega) (by omega)) (smC_tr (smC_tr (smC_up (by omega) (by omega)) (smC_up (by omega) (by omega))) (smC_lot _))) (smC_turn _)
  · exact smC_tr (smC_up (by omega) (by omega)) (smC_turn _)
theorem smC_pass (d : Nat → Nat) : smC d (passN d) := by
  unfold passN
  split
  · exact smC_tr (smC_tr (smC_tr (smC_up (by omega) (by omega)) (smC_up (by omega) (by omega))) (smC_lot _)) (smC_turn _)
  · exact smC_tr (smC_up (by omega) (by omega)) (smC_turn _)
theorem smC_unb {d : Nat → Nat} {b : Nat} (hb : b < d 5) (h5 : d 5 ≤ 20) : smC d (unbD d b) := smC_tr (smC_up (by omega) (by omega)) (smC_sh (by omega) (by omega))
theorem smC_give {d : Nat → Nat} {p e b : Nat} (hp : p < 5) (hn : d (11 + 19 * p + 1) < 8) : smC d (giveN d p e b) := smC_tr (smC_tr (smC_up (by omega) (by omega)) (smC_up (by omega) (by omega))) (smC_up (by omega) (by omega))
theorem payD_n (d : Nat → Nat) (p x q : Nat) : payD d p x (11 + 19 * q + 1) = d (11 + 19 * q + 1) := by
  unfold payD
  rw [upN_ne (by omega), upN_ne (by omega)]
theorem smC_play {d : Nat → Nat} {c x : Nat} (hD : GoodD d) (h4 : d 4 < d 1) (h5 : d 5 < 20) : smC d (playD d c x) := by
  have h1 := hD.1.2.1
  have hp8 := (hD.2.2.2.1 _ h4).1
  refine smC_tr (smC_tr (smC_pay (by omega)) (smC_bid (by unfold payD; rw [upN_ne (by omega), upN_ne (by omega)]; exact h5))) (smC_drop (by omega) ?_)
  rw [bidN_lo (by omega) (by omega), payD_n]
  exact hp8
theorem smC_can {d : Nat → Nat} {c b x : Nat} (hD : GoodD d) (h4 : d 4 < d 1) (hb : b < d 5) : smC d (canD d c b x) := by
  have h1 := hD.1.2.1
  have h5 := hD.1.2.2.2.2.2.1
  have hp8 := (hD.2.2.2.1 _ h4).1
  have ho := (hD.2.1 b hb).1
  have e5 : backD (cpayD d (d 4) x (d (118 + 3 * b + 2))) (d (118 + 3 * b)) (d (118 + 3 * b + 2)) 5 = d 5 := by
    unfold backD cpayD
    rw [upN_ne (by omega), upN_ne (by omega), upN_ne (by omega)]
  have s1 : smC d (cpayD d (d 4) x (d (118 + 3 * b + 2))) := smC_tr (smC_up (by omega) (by omega)) (smC_up (by omega) (by omega))
  have s2 : smC (cpayD d (d 4) x (d (118 + 3 * b + 2))) (backD (cpayD d (d 4) x (d (118 + 3 * b + 2))) (d (118 + 3 * b)) (d (118 + 3 * b + 2))) := smC_up (by omega) (by omega)
  refine smC_tr (smC_tr (smC_tr s1 s2) (smC_unb (by rw [e5]; exact hb) (by rw [e5]; exact h5))) (smC_drop (by omega) ?_)
  rw [unbD_lo (by omega) (by omega)]
  unfold backD cpayD
  rw [upN_ne (by omega), upN_ne (by omega), upN_ne (by omega)]
  exact hp8
section M91
variable {h h' : zH} {b0 N K : Nat} {d d' : Nat → Nat} {t : Nat → Nat} {rl : Nat} {T R : Nat → Int32} {X : Nat → Nat → Int32} {P Q : Nat → Int32} {T' R' : Nat → Int32} {X' : Nat → Nat → Int32} {P' Q' : Nat → Int32} {σ : Nat → Int64}
theorem RAd_ge {b0 : Nat} {h : zH} {rl : Nat} (hr : RAd b0 h rl) : b0 + 43 ≤ rl := by
  obtain ⟨-, hr⟩ := hr
  rcases hr with ⟨i, h1, h2⟩ | ⟨i, h1, h2⟩ | h2 <;> omega
theorem A_close (hU : RuleAt h rl K t) (hV : RAd b0 h rl) (hA : AucR d' T' R' X' P' Q') (hO : RowOK R') : AucAt b0 (aset (hSt h (rl + 2) σ) (b0 + 46) (b0 + 1) rl T' R' X' P' Q') (b0 + 46) d' K t ∧ FrA b0 h (aset (hSt h (rl + 2) σ) (b0 + 46) (b0 + 1) rl T' R' X' P' Q') := by
  obtain ⟨f, τ, u1, u2, u3, u4⟩ := id hU
  refine ⟨⟨rl, T', R', X', P', Q', as_as, hA, hO, RuleAt_as (RuleAt_sim hU (fun k _ => simc_st u3)) (RAd_out hV AAd_now), hV⟩, fun q hq => ?_, rfl, rfl, fun q h1 h2 => ?_⟩
  · have e : hM (aset (hSt h (rl + 2) σ) (b0 + 46) (b0 + 1) rl T' R' X' P' Q') q = hM (hSt h (rl + 2) σ) q := rs_out (by omega)
    rcases simc_st (q := q) (σ' := σ) u3 with e2 | ⟨a, b, e2, e3⟩
    · exact Or.inl (e.trans e2)
    · exact Or.inr ⟨a, b, e2, e.trans e3⟩
  · have e : hM (aset (hSt h (rl + 2) σ) (b0 + 46) (b0 + 1) rl T' R' X' P' Q') q = hM (hSt h (rl + 2) σ) q := rs_out (by omega)
    rw [e]
    unfold hSt
    rw [hM_put, if_neg ?_]
    obtain ⟨-, hV⟩ := hV
    rcases hV with ⟨i, v1, v2⟩ | ⟨i, v1, v2⟩ | v2 <;> omega
theorem A_close0 (hU : RuleAt h rl K t) (hV : RAd b0 h rl) (hA : AucR d' T' R' X' P' Q') (hO : RowOK R') : AucAt b0 (aset h (b0 + 46) (b0 + 1) rl T' R' X' P' Q') (b0 + 46) d' K t ∧ FrA b0 h (aset h (b0 + 46) (b0 + 1) rl T' R' X' P' Q') := ⟨⟨rl, T', R', X', P', Q', as_as, hA, hO, RuleAt_as hU (RAd_out hV AAd_now), hV⟩, fun q hq => Or.inl (rs_out (by omega)), rfl, rfl, fun q h1 h2 => rs_out (by omega)⟩
def playB (d : Nat → Nat) (x : Nat) : Prop := d 5 = 20 ∨ d (11 + 19 * d 4) < x
theorem A_play {c : Nat} (hNN : 1000 < N) (hG : GrpAt h (b0 + 1)) (hD : GoodD d) (hC : CodeR d K t) (hA : AucAt b0 h (b0 + 46) d K t) (ho : overN d = false) (hc : c < d (11 + 19 * d 4 + 1)) : ∃ h', (playB d (priT d K t (d 4) c) → f_X0_playCard N (b0 + 46) (nI c) h = some (-nI 1, h') ∧ AucAt b0 h' (b0 + 46) d K t) ∧ (¬ playB d (priT d K t (d 4) c) → f_X0_playCard N (b0 + 46) (nI c) h = some (b2 (winN (playD d c (priT d K t (d 4) c))), h') ∧ AucAt b0 h' (b0 + 46) (finN (playD d c (priT d K t (d 4) c)) (d 4)) K t) ∧ FrA b0 h h' := by
  obtain ⟨rl, T, R, X, P, Q, ea, hR, hO, hU, hV⟩ := hA
  obtain ⟨o1, o2⟩ := overN_false ho
  have h4 : d 4 < d 1 := by have := hD.1.2.2.2.2.1; omega
  obtain ⟨σ, hp⟩ := x_priceOf (N := N) (a := b0 + 46) (rl := rl) (p := d 4) (c := c) hG (by omega) hNN hD hR hU (RAd_out hV AAd_now) hC h4 hc
  have hx9 : priT d K t (d 4) c ≤ 9999 := priN_le _
  have hGs := GrpAt_st (q := rl + 2) (σ := σ) hG (by have := RAd_ge hV; omega)
  by_cases hb : playB d (priT d K t (d 4) c)
  · have c1 := x_playCard_ref hD hR h4 (by omega) hp hb
    rw [ea] at c1
    obtain ⟨k1, k2⟩ := A_close (σ := σ) hU hV hR hO
    exact ⟨_, fun _ => ⟨c1, k1⟩, fun hn => absurd hb hn, k2⟩
  · have hb2 : ¬ (d 5 = 20 ∨ d (11 + 19 * d 4) < priT d K t (d 4) c) := hb
    have h5 : d 5 < 20 := by have := hD.1.2.2.2.2.2.1; omega
    obtain ⟨T', R', X', P', Q', c1, c2, c3⟩ := x_playCard_ok (N := N) hGs (by omega) (by omega) hD (GoodD_play hD h4 h5 hc (by omega) hx9) hR hO h4 o2 hc (by omega) hp h5 (by omega)
    rw [ea] at c1
    obtain ⟨k1, k2⟩ := A_close (σ := σ) hU hV c2 c3
    exact ⟨_, fun hn => absurd hn hb, fun _ => ⟨c1, k1⟩, k2⟩
def canB (d : Nat → Nat) (c b x : Nat) : Prop := mulN (cardE d (d 4) c) (bidE d b) ≠ 0 ∨ x < d (118 + 3 * b + 2) ∨ d (11 + 19 * d 4) < x
theorem A_cancel {c b : Nat} (hNN : 1000 < N) (hG : GrpAt h (b0 + 1)) (hD : GoodD d) (hC : CodeR d K t) (hA : AucAt b0 h (b0 + 46) d K t) (ho : overN d = false) (hc : c < d (11 + 19 * d 4 + 1)) (hb5 : b < d 5) : ∃ h', (canB d c b (priT d K t (d 4) c) → f_X0_cancelBid N (b0 + 46) (nI c) (nI b) h = some (-nI 1, h') ∧ AucAt b0 h' (b0 + 46) d K t) ∧ (¬ canB d c b (priT d K t (d 4) c) → f_X0_cancelBid N (b0 + 46) (nI c) (nI b) h = some (b2 (winN (canD d c b (priT d K t (d 4) c))), h') ∧ AucAt b0 h' (b0 + 46) (finN (canD d c b (priT d K t (d 4) c)) (d 4)) K t) ∧ FrA b0 h h' := by
  obtain ⟨rl, T, R, X, P, Q, ea, hR, hO, hU, hV⟩ := hA
  obtain ⟨o1, o2⟩ := overN_false ho
  have h4 : d 4 < d 1 := by have := hD.1.2.2.2.2.1; omega
  obtain ⟨σ, hp⟩ := x_priceOf (N := N) (a := b0 + 46) (rl := rl) (p := d 4) (c := c) hG (by omega) hNN hD hR hU (RAd_out hV AAd_now) hC h4 hc
  have hx9 : priT d K t (d 4) c ≤ 9999 := priN_le _
  have hGs := GrpAt_st (q := rl + 2) (σ := σ) hG (by have := RAd_ge hV; omega)
  by_cases hb : canB d c b (priT d K t (d 4) c)
  · have c1 := x_cancelBid_ref (N := N) hGs (by omega) (by omega) hD hR h4 hc hb5 (by omega) hp hb
    rw [ea] at c1
    obtain ⟨k1, k2⟩ := A_close (σ := σ) hU hV hR hO
    exact ⟨_, fun _ => ⟨c1, k1⟩, fun hn => absurd hb hn, k2⟩
  · have hb2 : ¬ (mulN (cardE d (d 4) c) (bidE d b) ≠ 0 ∨ priT d K t (d 4) c < d (118 + 3 * b + 2) ∨ d (11 + 19 * d 4) < priT d K t (d 4) c) := hb
    have e1 : mulN (cardE d (d 4) c) (bidE d b) = 0 := Decidable.byContradiction fun hn => hb2 (Or.inl hn)
    have e2 : d (118 + 3 * b + 2) ≤ priT d K t (d 4) c := Nat.le_of_not_lt fun hn => hb2 (Or.inr (Or.inl hn))
    have e3 : priT d K t (d 4) c ≤ d (11 + 19 * d 4) := Nat.le_of_not_lt fun hn => hb2 (Or.inr (Or.inr hn))
    obtain ⟨T', R', X', P', Q', c1, c2, c3⟩ := x_cancelBid_ok (N := N) hGs (by omega) (by omega) hD (GoodD_can hD h4 hb5 hc e3 e2) hR hO h4 o2 hc hb5 (by omega) hp e1 e2 e3
    rw [ea] at c1
    obtain ⟨k1, k2⟩ := A_close (σ := σ) hU hV c2 c3
    exact ⟨_, fun hn => absurd hn hb, fun _ => ⟨c1, k1⟩, k2⟩
theorem A_pass (hD : GoodD d) (hA : AucAt b0 h (b0 + 46) d K t) (ho : overN d = false) : ∃ h', f_X0_passTurn N (b0 + 46) h = some (b2 (decide (d 7 + 1 = d 1)), h') ∧ AucAt b0 h' (b0 + 46) (passN d) K t ∧ FrA b0 h h' := by
  obtain ⟨rl, T, R, X, P, Q, ea, hR, hO, hU, hV⟩ := hA
  obtain ⟨o1, o2⟩ := overN_false ho
  obtain ⟨g0, g1, g2, g3, g4, g5, g7⟩ := hD.1
  obtain ⟨T', R', c1, c2, c3⟩ := x_passTurn (N := N) (h := h) (a := b0 + 46) (g := b0 + 1) (rl := rl) hR hO g1 (by omega) (by omega)
  rw [ea] at c1
  obtain ⟨k1, k2⟩ := A_close0 hU hV c2 c3
  exact ⟨_, c1, k1, k2⟩
theorem A_give {p e b : Nat} (hD : GoodD d) (hA : AucAt b0 h (b0 + 46) d K t) (hp : p < d 1) (hn : d (11 + 19 * p + 1) < 8) : ∃ h', f_X1_takeCard N (b0 + 46 + (2 + 5 * p)) (nI (idxN (d 0) e)) (nI b) h = some h' ∧ AucAt b0 h' (b0 + 46) (giveN d p e b) K t ∧ FrA b0 h h' := by
  obtain ⟨rl, T, R, X, P, Q, ea, hR, hO, hU, hV⟩ := hA
  obtain ⟨g0, g1, g2, g3, g4, g5, g7⟩ := hD.1
  have hc8 : ∀ q, q < d 1 → d (11 + 19 * q + 1) ≤ 8 := fun q hq => (hD.2.2.2.1 q hq).1
  obtain ⟨-, -, p3, p4, -⟩ := hR.2.2.2.2 p hp
  have hp5 : p < 5 := by omega
  have c1 := x_takeCard (N := N) (h := h) (a := b0 + 46) (g := b0 + 1) (rl := rl) (T := T) (X := X) (P := P) (Q := Q) (x := nI (idxN (d 0) e)) (y := nI b) hp5 p3 p4 hn
  rw [ea] at c1
  have c2 := AucR_give (e := e) (b := b) hR g1 hp hn hc8
  have l3 := rlen_e hp5
  have l5 := rlen_b hp5
  have c3 : RowOK (giveR R p (d (11 + 19 * p + 1))) := RowOK_up (RowOK_up hO (by omega)) (by omega)
  obtain ⟨k1, k2⟩ := A_close0 hU hV c2 c3
  exact ⟨_, c1, k1, k2⟩
theorem A_drop {p c : Nat} (hNN : 100 < N) (hD : GoodD d) (hA : AucAt b0 h (b0 + 46) d K t) (hp : p < d 1) (hc : c < d (11 + 19 * p + 1)) : ∃ h', f_X1_dropCard N (b0 + 46 + (2 + 5 * p)) (nI c) h = some h' ∧ AucAt b0 h' (b0 + 46) (dropN d p c) K t ∧ FrA b0 h h' := by
  obtain ⟨rl, T, R, X, P, Q, ea, hR, hO, hU, hV⟩ := hA
  obtain ⟨g0, g1, g2, g3, g4, g5, g7⟩ := hD.1
  have hc8 : ∀ q, q < d 1 → d (11 + 19 * q + 1) ≤ 8 := fun q hq => (hD.2.2.2.1 q hq).1
  obtain ⟨-, -, p3, p4, -⟩ := hR.2.2.2.2 p hp
  have hp5 : p < 5 := by omega
  have h8 := hc8 p hp
  have c1 := x_dropCard (N := N) (h := h) (a := b0 + 46) (g := b0 + 1) (rl := rl) (T := T) (X := X) (P := P) (Q := Q) hNN hp5 p3 p4 h8 hc
  rw [ea] at c1
  have c2 := AucR_drop hR g1 hp hc hc8
  have l3 := rlen_e hp5
  have l5 := rlen_b hp5
  have c3 : RowOK (dropR R p (d (11 + 19 * p + 1) - 1)) := RowOK_up (RowOK_up hO (by omega)) (by omega)
  obtain ⟨k1, k2⟩ := A_close0 hU hV c2 c3
  exact ⟨_, c1, k1, k2⟩
end M91

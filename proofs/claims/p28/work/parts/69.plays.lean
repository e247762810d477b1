/-! ===== the law plays and cancels ===== -/
section M69x
variable {M : Nat → Prop} {h h' : zH} {N a pu wo ha K p : Nat} {d d' t : Nat → Nat}
/-- without a card -/
theorem drop_cards {c : Nat} (h8 : d (11 + 19 * p + 1) ≤ 8) (hc : c < d (11 + 19 * p + 1)) : dropN d p c (11 + 19 * p + 1) = d (11 + 19 * p + 1) - 1 ∧ ∀ i, i < d (11 + 19 * p + 1) - 1 → dropN d p c (11 + 19 * p + 3 + 2 * i) = d (11 + 19 * p + 3 + 2 * sk c i) ∧ dropN d p c (11 + 19 * p + 3 + 2 * i + 1) = d (11 + 19 * p + 3 + 2 * sk c i + 1) := by
  refine ⟨dropN_at rfl, fun i hi => ?_⟩
  unfold sk
  by_cases hic : i < c
  · rw [if_pos hic, dropN_out h8 (by omega), dropN_out h8 (by omega)]
    exact ⟨rfl, rfl⟩
  · rw [if_neg hic, dropN_in (by omega) (by omega), dropN_in (by omega) (by omega)]
    exact ⟨congrArg d (by omega), congrArg d (by omega)⟩
theorem S_drop {c : Nat} (hNN : 1000 < N) (q : SaleAt M h a pu wo ha d K t) (hz : SzD d) (b : MB M h) (hp : p < d 1) (hc : c < d (11 + 19 * p + 1)) : ∃ r0 r1 h1 h', ldQ h ha (nI p) = some r0 ∧ f_L_without N r0 (nI c) h = some (r1, h1) ∧ stR h1 ha (nI p) r1 = some h' ∧ SaleAt M h' a pu wo ha (dropN d p c) K t ∧ FC nW 1 8 h h1 ∧ SaleAt M h1 a pu wo ha d K t ∧ FC (ownW a pu wo ha) 1 8 h h' := by
  have h8 := hz.2.2 p hp
  have z1 := hz.1
  obtain ⟨b1, b2, r0, b3, b4, b5⟩ := rd_play q hp hz.1
  obtain ⟨dd1, dd2⟩ := drop_cards (d := d) h8 hc
  obtain ⟨g, w1, w2⟩ := S_without (N := N) (i0 := c) (E' := fun i => idxN (d 0) (dropN d p c (11 + 19 * p + 3 + 2 * i))) (B' := fun i => dropN d p c (11 + 19 * p + 3 + 2 * i + 1)) (Q' := fun _ _ => True) hNN b5 b (by omega) hc (fun i hi => by
    obtain ⟨x1, x2⟩ := dd2 i hi
    exact ⟨by rw [x1], by rw [x2], fun _ _ => trivial⟩)
  have f1 : FC nW 1 (d (11 + 19 * p + 1) - 1) h (hNew h (rfA (d (11 + 19 * p + 1) - 1) 5 g) (d (11 + 19 * p + 1) - 1)) := FC_new
  have q1 := SaleAt_nW q f1
  obtain ⟨h', s1, s2, s3⟩ := S_ha (d' := dropN d p c) q1 hz hp (fun j hj => dropN_out h8 (by omega)) (by rw [dd1]; exact w2)
  exact ⟨r0, hS h, _, h', b3, w1, s1, s2, FC_mono f1 (by omega) (by omega) (fun _ _ h => h), q1, FC_mono (FC_tr (FC_ow f1 (Nat.le_refl _) (Nat.le_refl _) nW_ow) s3) (by omega) (by omega) (fun _ _ h => h)⟩
theorem S_play {c : Nat} (hNN : 1000 < N) (q : SaleAt M h a pu wo ha d K t) (hD : GoodD d) (ho : overN d = false) (b : MB M h) (hc : c < d (11 + 19 * d 4 + 1)) : (playB d (priT d K t (d 4) c) → ∃ h', f_X12_play N a (nI c) h = some (-nI 1, h') ∧ SaleAt M h' a pu wo ha d K t ∧ FC (ownW a pu wo ha) 40 200 h h') ∧ (¬ playB d (priT d K t (d 4) c) → ∃ h', f_X12_play N a (nI c) h = some (b2 (winN (playD d c (priT d K t (d 4) c))), h') ∧ SaleAt M h' a pu wo ha (finN (playD d c (priT d K t (d 4) c)) (d 4)) K t ∧ FC (ownW a pu wo ha) 40 200 h h') := by
  obtain ⟨o1, o3⟩ := overN_false ho
  have h4 : d 4 < d 1 := by have := hD.1.2.2.2.2.1; omega
  have hz := SzD_of hD
  have g1 := hz.1
  have c8 := hz.2.2 _ h4
  have g5 : d 5 ≤ 20 := hD.1.2.2.2.2.2.1
  obtain ⟨i0, i5, i6, i8, i9, i10⟩ := rd_ints q
  obtain ⟨r1, r2, r3, r4, r5, r6⟩ := rd_rows q
  obtain ⟨p1, p2, r0, p3, p4, p5⟩ := rd_play q h4 g1
  obtain ⟨k, er, pl, k1, k2, k3, k4, k5, k6, k7, k8, -, kR⟩ := rd_card p5 hc (by omega)
  obtain ⟨e1, e2, e3⟩ := good_card hD h4 hc
  obtain ⟨h1, s1, f1⟩ := L_price (N := N) hNN hD q k5 k6 e1 k7 k8 (by omega)
  have ep : priN (evJ (tokV (d (11 + 19 * d 4 + 3 + 2 * c + 1)) (ordN (idxN (d 0) (d (11 + 19 * d 4 + 3 + 2 * c)))) (d 5) (d 6)) t (fun _ => 0) K 0) = priT d K t (d 4) c := rfl
  rw [ep] at s1
  have hx9 : priT d K t (d 4) c ≤ 9999 := priN_le _
  generalize hxx : priT d K t (d 4) c = x at s1 hx9 ⊢
  have q1 := SaleAt_nW q f1
  have oo : ∀ F : Option (Int32 × zH), onO 12 a h F = F := fun F => o12 q
  obtain ⟨bi, u1, u2, u3⟩ := rd_bids q1
  obtain ⟨I0, I5, I6, I8, I9, I10⟩ := rd_ints q1
  obtain ⟨R1, R2, R3, R4, R5, R6⟩ := rd_rows q1
  obtain ⟨P1, P2, P0, P3, P4, P5⟩ := rd_play q1 h4 g1
  have fo := FC_ow (a := a) (pu := pu) (wo := wo) (ha := ha) f1 (Nat.le_refl _) (Nat.le_refl _) nW_ow
  have sl := sum_le hD h4
  have n20 : ((20 : Int32) = nI 20) := rfl
  constructor
  · intro hb
    refine ⟨h1, ?_, q1, FC_mono fo (by omega) (by omega) (fun _ _ h => h)⟩
    by_cases h5 : d 5 = 20
    · simp (disch := omega) only [f_X12_play, r3, i6, p3, k1, oo, s1, u1, u2, n20, neqT, Option.bind_some, ↓reduceIte]
      rfl
    · have hlt : d (11 + 19 * d 4) < x := by unfold playB at hb; omega
      simp (disch := omega) only [f_X12_play, r3, i6, p3, k1, oo, s1, u1, u2, n20, neqF, R1, I6, P1, nleF, Option.bind_some, ↓reduceIte]
      rfl
  · intro hb
    have h5 : d 5 < 20 := by unfold playB at hb; omega
    have hle : x ≤ d (11 + 19 * d 4) := by unfold playB at hb; omega
    have hGp := GoodD_pay hD h4 hle
    have hGP := GoodD_play hD h4 h5 hc hle hx9
    -- the purse
    obtain ⟨h2, s2, q2, f2⟩ := S_pu (v := d (11 + 19 * d 4) - x) (d' := upN d (11 + 19 * d 4) (d (11 + 19 * d 4) - x)) q1 hz h4 (fun j hj => upN_ne hj) (upN_eq _ _ _)
    obtain ⟨J0, J5, J6, J8, -, -⟩ := rd_ints q2
    have J8' : gI h2 a 12 8 = some (nI (d 6)) := by rw [J8, upN_ne (by omega)]
    -- the pot
    obtain ⟨h3, s3, q3, f3⟩ := S_int (k := 8) (v := d 6 + x) (d' := payD d (d 4) x) q2 (by omega) (fun _ _ _ => rfl) (fun j hj => upN_ne (by omega))
    have hz3 := SzD_of hGp
    -- the new bid
    have B3 : MB M h3 := MB_fc (MB_fc (MB_fc b f1) f2) f3
    have E0 : payD d (d 4) x 0 = d 0 := by unfold payD; rw [upN_ne (by omega), upN_ne (by omega)]
    have E1 : payD d (d 4) x 1 = d 1 := by unfold payD; rw [upN_ne (by omega), upN_ne (by omega)]
    have E4 : payD d (d 4) x 4 = d 4 := by unfold payD; rw [upN_ne (by omega), upN_ne (by omega)]
    have E5 : payD d (d 4) x 5 = d 5 := by unfold payD; rw [upN_ne (by omega), upN_ne (by omega)]
    have Ec : ∀ j, 11 + 19 * d 4 < j → payD d (d 4) x j = d j := fun j hj => by unfold payD; rw [upN_ne (by omega), upN_ne (by omega)]
    obtain ⟨bi3, v1, v2, v3⟩ := rd_bids q3
    obtain ⟨V0, V5, V6, -⟩ := rd_ints q3
    have hmw : ∀ y, (fun x => ownW a pu wo ha x) y → M y := by
      obtain ⟨lo, bi', tv, -, h2', -⟩ := id q
      obtain ⟨-, ⟨m1, m2, m3, m4⟩, -⟩ := h2'
      rintro y (rfl | rfl | rfl | rfl) <;> assumption
    have kR3 : RowAt M h3 er (d 0) (idxN (d 0) (d (11 + 19 * d 4 + 3 + 2 * c))) := RowAt_fc (RowAt_fc (RowAt_fc kR f1 (fun y hy => hy.elim)) f2 hmw) f3 hmw
    obtain ⟨n1, n2⟩ := card_new (pl := nI (d 4)) (bs := x) B3 kR3
    have f4 : FC nW 1 3 h3 (hNew h3 (.inr (9, [.int (nI (d 4)), .ref er, .int (nI x)])) 3) := FC_new
    have fe : ∀ {fs : List Value}, FC nW 1 3 h3 (hNew h3 (.inr (9, fs)) 3) := fun {fs} => FC_new
    have B4 := MB_fc B3 f4
    have q4 := SaleAt_nW q3 f4
    have v3' := CardsAt_nW v3 f4
    rw [E0] at v3'
    obtain ⟨g, w1, w2⟩ := S_with (N := N) (E' := bidE (bidN (payD d (d 4) x) (d 4) (d (11 + 19 * d 4 + 3 + 2 * c)) x)) (B' := fun i => bidN (payD d (d 4) x) (d 4) (d (11 + 19 * d 4 + 3 + 2 * c)) x (118 + 3 * i + 2)) (Q' := fun i y => y = nI (bidN (payD d (d 4) x) (d 4) (d (11 + 19 * d 4 + 3 + 2 * c)) x (118 + 3 * i))) hNN v3' B4 (by rw [E5]; omega) n1 n2 (fun i hi => by
      rw [E5] at hi
      refine ⟨?_, bidN_old (by omega) (by rw [E5]; omega), fun y hy => ?_⟩
      · unfold bidE
        rw [bidN_lo (by omega) (by omega), bidN_old (by omega) (by rw [E5]; omega)]
      · rw [bidN_old (by omega) (by rw [E5]; omega)]; exact hy) (by
      obtain ⟨t1, t2, t3⟩ := bidN_new (payD d (d 4) x) (d 4) (d (11 + 19 * d 4 + 3 + 2 * c)) x
      refine ⟨?_, t3, by rw [t1]⟩
      show idxN _ _ = _
      rw [t2, bidN_lo (by omega) (by omega), E0])
    have f5 : FC nW 1 (payD d (d 4) x 5 + 1) (hNew h3 (.inr (9, [.int (nI (d 4)), .ref er, .int (nI x)])) 3) (hNew (hNew h3 (.inr (9, [.int (nI (d 4)), .ref er, .int (nI x)])) 3) (rfA (payD d (d 4) x 5 + 1) 5 g) (payD d (d 4) x 5 + 1)) := FC_new
    have q5 := SaleAt_nW q4 f5
    obtain ⟨h6, s6, q6, f6⟩ := S_bi (d' := bidN (payD d (d 4) x) (d 4) (d (11 + 19 * d 4 + 3 + 2 * c)) x) q5 hz3 (fun j h5 hj => bidN_lo hj h5) (by rw [E0, bidN_5]; exact w2)
    have D1 : bidN (payD d (d 4) x) (d 4) (d (11 + 19 * d 4 + 3 + 2 * c)) x 1 = d 1 := by rw [bidN_lo (by omega) (by omega), E1]
    have D4 : bidN (payD d (d 4) x) (d 4) (d (11 + 19 * d 4 + 3 + 2 * c)) x 4 = d 4 := by rw [bidN_lo (by omega) (by omega), E4]
    have Dn : bidN (payD d (d 4) x) (d 4) (d (11 + 19 * d 4 + 3 + 2 * c)) x (11 + 19 * d 4 + 1) = d (11 + 19 * d 4 + 1) := by rw [bidN_lo (by omega) (by omega), Ec _ (by omega)]
    have hGb := GoodD_bid (v := d (11 + 19 * d 4 + 3 + 2 * c)) hGp (show payD d (d 4) x 5 < 20 by rw [E5]; exact h5) (show d 4 < payD d (d 4) x 1 by rw [E1]; exact h4) (by rw [E0]; exact ((hD.2.2.2.1 _ h4).2.2 c hc).1) hx9
    obtain ⟨X0, X5, X6, -⟩ := rd_ints q6
    rw [D4] at X6
    obtain ⟨Y1, Y2, Y3, -⟩ := rd_rows q6
    have B6 := MB_fc (MB_fc B4 f5) f6
    obtain ⟨ra, rb, h7, h8, d1, d2, d3, q8, f7, q7, f8⟩ := S_drop (N := N) (p := d 4) hNN q6 (SzD_of hGb) B6 (by rw [D1]; exact h4) (by rw [Dn]; exact hc)
    have oP : overN (playD d c x) = false := by
      have e1 : playD d c x 1 = d 1 := playD_lo (by omega) (by omega) (by omega) c8
      have e2 : playD d c x 2 = d 2 := playD_lo (by omega) (by omega) (by omega) c8
      have e3 : playD d c x 3 = d 3 := playD_lo (by omega) (by omega) (by omega) c8
      unfold overN at ho ⊢
      rw [e1, e2, e3]; exact ho
    have pE4 : playD d c x 4 = d 4 := playD_lo (by omega) (by omega) (by omega) c8
    obtain ⟨h9, s9, q9, f9⟩ := S_finish (N := N) hNN (show SaleAt M h8 a pu wo ha (playD d c x) K t from q8) hGP oP (MB_fc B6 f8)
    rw [pE4] at q9
    refine ⟨h9, ?_, q9, FC_mono (FC_tr fo (FC_tr f2 (FC_tr f3 (FC_tr (FC_ow f4 (Nat.le_refl _) (Nat.le_refl _) nW_ow) (FC_tr (FC_ow f5 (Nat.le_refl _) (Nat.le_refl _) nW_ow) (FC_tr f6 (FC_tr f8 f9))))))) (by omega) (by rw [E5]; omega) (fun _ _ h => h)⟩
    have kc : ∀ {fs : List Value}, gA (hNew h3 (.inr (9, fs)) 3) k 9 1 = some er := fun {fs} => by
      have k5' := cell_fc k5 k6 f1 (fun h => h) (fun σ e => by cases e)
      have hk9 : ¬ ownW a pu wo ha k := by
        intro hk9
        obtain ⟨g9, y1, y2⟩ := p5
        obtain ⟨k', er', pl', z1, z2, -⟩ := y2 c hc
        have : k = k' := by
          have := ldQ_of' y1.1 (by omega) hc (by omega) z1
          rw [k1] at this
          exact Option.some.inj this
        subst this
        exact z2.2.2 (hmw _ hk9)
      have k5b := cell_fc k5' (by have := f1.1.1; omega) f2 hk9 (fun σ e => by cases e)
      have k5c := cell_fc k5b (by have := f1.1.1; have := f2.1.1; omega) f3 hk9 (fun σ e => by cases e)
      have k5d := cell_fc k5c (by have := f1.1.1; have := f2.1.1; have := f3.1.1; omega) (fe (fs := fs)) (fun h => h) (fun σ e => by cases e)
      exact gA_of' k5d rfl
    have w0 : nwOb 9 [.int 0, .null, .int 0] h3 = some (hS h3, hNew h3 (.inr (9, [.int 0, .null, .int 0])) 3) := rfl
    have i6n : gI (hNew h3 (.inr (9, [.int 0, .null, .int 0])) 3) a 12 6 = some (nI (d 4)) := by
      obtain ⟨-, -, t6, -⟩ := rd_ints (SaleAt_nW q3 (fe (fs := [.int 0, .null, .int 0])))
      rw [t6, E4]
    have oF : ∀ F : Option (Int32 × zH), onO 12 a h8 F = F := fun F => o12 q8
    have L9 := L_card9 (N := N) (h := h3) (pl := nI (d 4)) (er := er) (bs := x)
    simp (disch := omega) only [f_X12_play, r3, i6, p3, k1, oo, s1, u1, u2, n20, neqF, R1, I6, P1, nleT, nsub, s2, J8', nadd, s3, v1, w0, i6n, kc, L9, w1, s6, Y3, X6, d1, d2, d3, oF, s9, Option.bind_some, ↓reduceIte]
end M69x

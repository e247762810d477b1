/-! ===== the law cancels ===== -/
section M695
variable {M : Nat → Prop} {h h' : zH} {N a pu wo ha K p n : Nat} {d d' t : Nat → Nat}
theorem own_M (q : SaleAt M h a pu wo ha d K t) : ∀ y, ownW a pu wo ha y → M y := by
  obtain ⟨lo, bi', tv, -, h2', -⟩ := id q
  obtain ⟨-, ⟨m1, m2, m3, m4⟩, -⟩ := h2'
  rintro y (rfl | rfl | rfl | rfl) <;> assumption
theorem rd_cardM {r cnt i : Nat} {E B : Nat → Nat} {Q : Nat → Int32 → Prop} (q : CardsAt M h r n cnt E B Q) (hi : i < cnt) (hc : cnt ≤ 20) : ∃ (k er : Nat) (pl : Int32), ldQ h r (nI i) = some k ∧ IM M h k (.inr (9, [.int pl, .ref er, .int (nI (B i))])) ∧ Q i pl ∧ RowAt M h er n (E i) := by
  obtain ⟨g, h1, h2⟩ := q
  obtain ⟨k, er, pl, k1, k2, k3, k4⟩ := h2 i hi
  exact ⟨k, er, pl, ldQ_of' h1.1 (by omega) hi (by omega) k1, k2, k3, k4⟩
theorem RowAt_lt {er e : Nat} (r : RowAt M h er n e) : er < hS h := by obtain ⟨f, h1, -⟩ := r; exact h1.2.1
theorem S_cancel {c i : Nat} (hNN : 1000 < N) (q : SaleAt M h a pu wo ha d K t) (hD : GoodD d) (ho : overN d = false) (b : MB M h) (hc : c < d (11 + 19 * d 4 + 1)) (hi : i < d 5) : (canB d c i (priT d K t (d 4) c) → ∃ h', f_X12_cancel N a (nI c) (nI i) h = some (-nI 1, h') ∧ SaleAt M h' a pu wo ha d K t ∧ FC (ownW a pu wo ha) 40 200 h h') ∧ (¬ canB d c i (priT d K t (d 4) c) → ∃ h', f_X12_cancel N a (nI c) (nI i) h = some (b2 (winN (canD d c i (priT d K t (d 4) c))), h') ∧ SaleAt M h' a pu wo ha (finN (canD d c i (priT d K t (d 4) c)) (d 4)) K t ∧ FC (ownW a pu wo ha) 40 200 h h') := by
  obtain ⟨o1, o3⟩ := overN_false ho
  have h4 : d 4 < d 1 := by have := hD.1.2.2.2.2.1; omega
  have hz := SzD_of hD
  have g1 := hz.1
  have g0 := hD.1.1
  have hin := inN_lt g0
  have c8 := hz.2.2 _ h4
  have g5 : d 5 ≤ 20 := hD.1.2.2.2.2.2.1
  obtain ⟨i0, i5, i6, i8, i9, i10⟩ := rd_ints q
  obtain ⟨r1, r2, r3, r4, r5, r6⟩ := rd_rows q
  obtain ⟨p1, p2, r0, p3, p4, p5⟩ := rd_play q h4 g1
  obtain ⟨bi, u1, u2, u3⟩ := rd_bids q
  obtain ⟨k, er, pl, k1, k5, -, kR⟩ := rd_cardM p5 hc (by omega)
  obtain ⟨kb, eb, plb, l1, l5, l6, lR⟩ := rd_cardM u3 hi (by omega)
  subst l6
  obtain ⟨e1, e2, e3⟩ := good_card hD h4 hc
  obtain ⟨y1, y2, y3, y4⟩ := good_bid hD hi
  obtain ⟨h1, s1, f1⟩ := L_price (N := N) hNN hD q k5.1 k5.2.1 e1 (RowAt_E kR) (RowAt_lt kR) (by omega)
  have ep : priN (evJ (tokV (d (11 + 19 * d 4 + 3 + 2 * c + 1)) (ordN (idxN (d 0) (d (11 + 19 * d 4 + 3 + 2 * c)))) (d 5) (d 6)) t (fun _ => 0) K 0) = priT d K t (d 4) c := rfl
  rw [ep] at s1
  have hx9 : priT d K t (d 4) c ≤ 9999 := priN_le _
  generalize hxx : priT d K t (d 4) c = x at s1 hx9 ⊢
  have oo : ∀ F : Option (Int32 × zH), onO 12 a h F = F := fun F => o12 q
  have kR1 := RowAt_fc kR f1 (fun y hy => hy.elim)
  have lR1 := RowAt_fc lR f1 (fun y hy => hy.elim)
  have k51 := IM_fc k5 f1 (fun y hy => hy.elim) (fun σ e => by cases e)
  have l51 := IM_fc l5 f1 (fun y hy => hy.elim) (fun σ e => by cases e)
  have kg1 : gA h1 k 9 1 = some er := gA_of' k51.1 rfl
  have lg1 : gA h1 kb 9 1 = some eb := gA_of' l51.1 rfl
  obtain ⟨g, t1, t2⟩ := L_times (N := N) hNN g0 e1 y1 (RowAt_E kR1) (RowAt_E lR1) (RowAt_lt kR1) (RowAt_lt lR1)
  have f2 : FC nW 1 (d 0) h1 (hNew h1 (.inl (0, d 0, .inl g)) (d 0)) := FC_new
  have n1 := L_isNeutral (N := N) (h := hNew h1 (.inl (0, d 0, .inl g)) (d 0)) hNN g0 (mul_in g0 e1 y1) ⟨g, hM_new_eq, t2⟩
  generalize hNew h1 (.inl (0, d 0, .inl g)) (d 0) = h2 at t1 f2 n1
  have f12 : FC nW (6 + 1) (29 + d 0) h h2 := FC_tr f1 f2
  have q2 := SaleAt_nW q f12
  have l52 := IM_fc l51 f2 (fun y hy => hy.elim) (fun σ e => by cases e)
  have lg2 : gI h2 kb 9 2 = some (nI (d (118 + 3 * i + 2))) := gI_of' l52.1 rfl
  obtain ⟨I0, I5, I6, I8, I9, I10⟩ := rd_ints q2
  obtain ⟨R1, R2, R3, R4, R5, R6⟩ := rd_rows q2
  obtain ⟨P1, P2, P0, P3, P4, P5⟩ := rd_play q2 h4 g1
  have fo := FC_ow (a := a) (pu := pu) (wo := wo) (ha := ha) f12 (Nat.le_refl _) (Nat.le_refl _) nW_ow
  have sl := sum_le hD h4
  have b1 : (b2 true = nI 0) = False := eq_false (by decide)
  have b0 : (b2 false = nI 0) = True := eq_true rfl
  have hcan : canB d c i x ↔ (mulN (idxN (d 0) (d (11 + 19 * d 4 + 3 + 2 * c))) (bidE d i) ≠ 0 ∨ x < d (118 + 3 * i + 2) ∨ d (11 + 19 * d 4) < x) := Iff.rfl
  constructor
  · intro hb
    refine ⟨h2, ?_, q2, FC_mono fo (by omega) (by omega) (fun _ _ h => h)⟩
    by_cases hm : mulN (idxN (d 0) (d (11 + 19 * d 4 + 3 + 2 * c))) (bidE d i) = 0
    · rw [decide_eq_true hm] at n1
      by_cases hxy : x < d (118 + 3 * i + 2)
      · simp (disch := omega) only [f_X12_cancel, r3, i6, p3, k1, u1, l1, oo, s1, kg1, lg1, t1, n1, b1, nlit, lg2, nltT, Option.bind_some, ↓reduceIte]
      · have hlt : d (11 + 19 * d 4) < x := by have := hcan.mp hb; omega
        simp (disch := omega) only [f_X12_cancel, r3, i6, p3, k1, u1, l1, oo, s1, kg1, lg1, t1, n1, b1, nlit, lg2, nltF, R1, I6, P1, nleF, Option.bind_some, ↓reduceIte]
    · rw [decide_eq_false hm] at n1
      simp (disch := omega) only [f_X12_cancel, r3, i6, p3, k1, u1, l1, oo, s1, kg1, lg1, t1, n1, b0, nlit, Option.bind_some, ↓reduceIte]
  · intro hb
    have hb' := fun hh => hb (hcan.mpr hh)
    have hm : mulN (idxN (d 0) (d (11 + 19 * d 4 + 3 + 2 * c))) (bidE d i) = 0 := Classical.byContradiction fun hh => hb' (Or.inl hh)
    have hyx : d (118 + 3 * i + 2) ≤ x := by
      by_cases hh : x < d (118 + 3 * i + 2)
      · exact absurd (Or.inr (Or.inl hh)) hb'
      · omega
    have hle : x ≤ d (11 + 19 * d 4) := by
      by_cases hh : d (11 + 19 * d 4) < x
      · exact absurd (Or.inr (Or.inr hh)) hb'
      · omega
    rw [decide_eq_true hm] at n1
    generalize hyy : d (118 + 3 * i + 2) = y at hyx y4 lg2
    generalize hoo : d (118 + 3 * i) = o at y3
    have hGc := GoodD_cb hD h4 y3 hle hyx
    have hGC : GoodD (canD d c i x) := GoodD_can hD h4 hi hc hle (by rw [hyy]; exact hyx)
    have hmw := own_M q
    -- the purse
    obtain ⟨h3, s3, q3, f3⟩ := S_pu (v := d (11 + 19 * d 4) - x) (d' := upN d (11 + 19 * d 4) (d (11 + 19 * d 4) - x)) q2 hz h4 (fun j hj => upN_ne hj) (upN_eq _ _ _)
    obtain ⟨J0, J5, J6, J8, -, -⟩ := rd_ints q3
    have J8' : gI h3 a 12 8 = some (nI (d 6)) := by rw [J8, upN_ne (by omega)]
    have l53 := IM_fc l52 f3 hmw (fun σ e => by cases e)
    -- the pot
    obtain ⟨h4', s4, q4, f4⟩ := S_int (k := 8) (v := d 6 + (x - y)) (d' := cpayD d (d 4) x y) q3 (by omega) (fun _ _ _ => rfl) (fun j hj => upN_ne (by omega))
    have l54 := IM_fc l53 f4 hmw (fun σ e => by cases e)
    have lg3 : gI h3 kb 9 2 = some (nI y) := by rw [← hyy]; exact gI_of' l53.1 rfl
    have lg4 : gI h4' kb 9 2 = some (nI y) := by rw [← hyy]; exact gI_of' l54.1 rfl
    have lp4 : gI h4' kb 9 0 = some (nI o) := by rw [← hoo]; exact gI_of' l54.1 rfl
    have E0 : ∀ j, j ≠ 6 → (∀ q, q < 5 → j ≠ 11 + 19 * q) → cpayD d (d 4) x y j = d j := fun j h6 hj => by
      have := hj (d 4) (by omega)
      unfold cpayD; rw [upN_ne h6, upN_ne this]
    have E1 : ∀ j, j ≠ 6 → (∀ q, q < 5 → j ≠ 11 + 19 * q) → backD (cpayD d (d 4) x y) o y j = d j := fun j h6 hj => by
      have := hj o (by omega)
      unfold backD; rw [upN_ne this, E0 j h6 hj]
    have hz4 : SzD (cpayD d (d 4) x y) := SzD_up (SzD_up hz ⟨by omega, by omega, fun q _ => by omega⟩) ⟨by omega, by omega, fun q _ => by omega⟩
    have hc1 : cpayD d (d 4) x y 1 = d 1 := E0 1 (by omega) (fun q _ => by omega)
    -- the bid's price goes back
    have sb := (sum_le hGc (p := o) (by rw [E1 1 (by omega) (fun q _ => by omega)]; exact y3)).1
    have sb1 : backD (cpayD d (d 4) x y) o y (11 + 19 * o) = cpayD d (d 4) x y (11 + 19 * o) + y := upN_eq _ _ _
    obtain ⟨h5, s5, q5, f5⟩ := S_pay (N := N) (x := y) (p := o) q4 hz4 (by rw [hc1]; exact y3) (by rw [sb1] at sb; omega)
    have q5 : SaleAt M h5 a pu wo ha (backD (cpayD d (d 4) x y) o y) K t := q5
    have B5 : MB M h5 := MB_fc (MB_fc (MB_fc (MB_fc b f12) f3) f4) f5
    -- the bid goes
    obtain ⟨bi5, v1, v2, v3⟩ := rd_bids q5
    have D5 : backD (cpayD d (d 4) x y) o y 5 = d 5 := E1 5 (by omega) (fun q _ => by omega)
    have D0 : backD (cpayD d (d 4) x y) o y 0 = d 0 := E1 0 (by omega) (fun q _ => by omega)
    have hz5 := SzD_of hGc
    have hGu : GoodD (unbD (backD (cpayD d (d 4) x y) o y) i) := GoodD_unb hGc (by rw [D5]; exact hi)
    generalize hdd : backD (cpayD d (d 4) x y) o y = dd at q5 v3 hGc hz5 D5 D0 E1 hGu
    obtain ⟨gw, w1, w2⟩ := S_without (N := N) (i0 := i) (E' := bidE (unbD dd i)) (B' := fun j => unbD dd i (118 + 3 * j + 2)) (Q' := fun j z => z = nI (unbD dd i (118 + 3 * j))) hNN v3 B5 (by omega) (by omega) (fun j hj => by
      unfold sk
      by_cases hji : j < i
      · rw [if_pos hji]
        refine ⟨?_, unbD_old (by omega) (by omega), fun z hz => by rw [unbD_old (by omega) (by omega)]; exact hz⟩
        unfold bidE
        rw [unbD_lo (by omega) (by omega), unbD_old (by omega) (by omega)]
      · rw [if_neg hji]
        refine ⟨?_, ?_, fun z hz => ?_⟩
        · unfold bidE
          rw [unbD_lo (by omega) (by omega), unbD_new (by omega) (by omega)]
          exact congrArg (fun k => idxN (dd 0) (dd k)) (by omega)
        · rw [unbD_new (by omega) (by omega)]
          exact congrArg dd (by omega)
        · rw [unbD_new (by omega) (by omega)]
          rw [hz]
          exact congrArg (fun k => nI (dd k)) (by omega))
    have f6 : FC nW 1 (dd 5 - 1) h5 (hNew h5 (rfA (dd 5 - 1) 5 gw) (dd 5 - 1)) := FC_new
    have q6 := SaleAt_nW q5 f6
    obtain ⟨h7, s7, q7, f7⟩ := S_bi (d' := unbD dd i) q6 hz5 (fun j h5 hj => unbD_lo hj h5) (by rw [unbD_5]; exact w2)
    have U1 : unbD dd i 1 = d 1 := by rw [unbD_lo (by omega) (by omega), E1 1 (by omega) (fun q _ => by omega)]
    have U4 : unbD dd i 4 = d 4 := by rw [unbD_lo (by omega) (by omega), E1 4 (by omega) (fun q _ => by omega)]
    have Un : unbD dd i (11 + 19 * d 4 + 1) = d (11 + 19 * d 4 + 1) := by rw [unbD_lo (by omega) (by omega), E1 _ (by omega) (fun q _ => by omega)]
    obtain ⟨X0, X5, X6, -⟩ := rd_ints q7
    rw [U4] at X6
    obtain ⟨Y1, Y2, Y3, -⟩ := rd_rows q7
    have B7 := MB_fc (MB_fc B5 f6) f7
    obtain ⟨ra, rb, h8, h9, d1, d2, d3, q9, f8, q8, f9⟩ := S_drop (N := N) (p := d 4) hNN q7 (SzD_of hGu) B7 (by rw [U1]; exact h4) (by rw [Un]; exact hc)
    have hcan2 : dropN (unbD dd i) (d 4) c = canD d c i x := by
      rw [← hdd]
      unfold canD
      rw [hyy, hoo]
    rw [hcan2] at q9
    have oP : overN (canD d c i x) = false := by
      have e1 : canD d c i x 1 = d 1 := canD_lo (by omega) (by omega) (by omega) c8
      have e2 : canD d c i x 2 = d 2 := canD_lo (by omega) (by omega) (by omega) c8
      have e3 : canD d c i x 3 = d 3 := canD_lo (by omega) (by omega) (by omega) c8
      unfold overN at ho ⊢
      rw [e1, e2, e3]; exact ho
    have pE4 : canD d c i x 4 = d 4 := canD_lo (by omega) (by omega) (by omega) c8
    obtain ⟨h10, s10, q10, f10⟩ := S_finish (N := N) hNN q9 hGC oP (MB_fc B7 f9)
    rw [pE4] at q10
    refine ⟨h10, ?_, q10, FC_mono (FC_tr fo (FC_tr f3 (FC_tr f4 (FC_tr f5 (FC_tr (FC_ow f6 (Nat.le_refl _) (Nat.le_refl _) nW_ow) (FC_tr f7 (FC_tr f9 f10))))))) (by omega) (by omega) (fun _ _ h => h)⟩
    have oB : ∀ F : Option zH, onO 12 a h4' F = F := fun F => o12 q4
    have oF : ∀ F : Option (Int32 × zH), onO 12 a h9 F = F := fun F => o12 q9
    simp (disch := omega) only [f_X12_cancel, r3, i6, p3, k1, u1, l1, oo, s1, kg1, lg1, t1, n1, b1, nlit, lg2, nltF, R1, I6, P1, nleT, nsub, s3, J8', lg3, nadd, s4, lp4, lg4, oB, s5, v1, w1, s7, Y3, X6, d1, d2, d3, oF, s10, Option.bind_some, ↓reduceIte]
end M695

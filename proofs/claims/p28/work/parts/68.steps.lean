/-! ===== the law's steps ===== -/
section M68
variable {M M' W : Nat → Prop} {h h' : zH} {N a pu wo ha K p : Nat} {d d' t : Nat → Nat}
theorem SzD_up {k x : Nat} (hz : SzD d) (hk : k ≠ 1 ∧ k ≠ 2 ∧ ∀ q, q < 5 → k ≠ 11 + 19 * q + 1) : SzD (upN d k x) := by
  obtain ⟨z1, z2, z8⟩ := hz
  obtain ⟨k1, k2, k3⟩ := hk
  unfold SzD
  rw [upN_ne (fun e => k1 e.symm), upN_ne (fun e => k2 e.symm)]
  refine ⟨z1, z2, fun q hq => ?_⟩
  rw [upN_ne (fun e => k3 q (by omega) e.symm)]
  exact z8 q hq
theorem min_9 {x : Nat} (hx : x ≤ 999999) : f_J9_min_7cf53 N (999999 : Int32) (nI x) h = some (nI x, h) := by
  unfold f_J9_min_7cf53
  by_cases he : x = 999999
  · subst he
    rw [show (999999 : Int32) = nI 999999 from rfl, if_neg (by rw [nltF (by omega) (by omega)]; exact not_false)]
  · rw [show (999999 : Int32) = nI 999999 from rfl, if_pos (by rw [nltT (by omega) (by omega)]; exact trivial)]
theorem S_pay {x : Nat} (q : SaleAt M h a pu wo ha d K t) (hz : SzD d) (hp : p < d 1) (hx : d (11 + 19 * p) + x ≤ 999999) : ∃ h', f_X12_pay N a (nI p) (nI x) h = some h' ∧ SaleAt M h' a pu wo ha (upN d (11 + 19 * p) (d (11 + 19 * p) + x)) K t ∧ FC (ownW a pu wo ha) 0 0 h h' := by
  obtain ⟨r1, r2, r3, r4, r5, r6⟩ := rd_rows q
  obtain ⟨b1, b2, -⟩ := rd_play q hp hz.1
  obtain ⟨h', s1, s2, s3⟩ := S_pu (d' := upN d (11 + 19 * p) (d (11 + 19 * p) + x)) (v := d (11 + 19 * p) + x) q hz hp (fun j hj => upN_ne hj) (upN_eq _ _ _)
  refine ⟨h', ?_, s2, s3⟩
  simp only [f_X12_pay, r1, b1, nadd, min_9 hx, s1, Option.bind_some]
theorem FC_ow {W : Nat → Prop} {c m c' m' : Nat} (f : FC W c m h h') (hc : c ≤ c') (hm : m ≤ m') (hw : ∀ x, W x → ownW a pu wo ha x) : FC (ownW a pu wo ha) c' m' h h' := FC_mono f hc hm (fun x _ => hw x)
theorem nW_ow (x : Nat) (hx : nW x) : ownW a pu wo ha x := hx.elim
theorem ow_ow (x : Nat) (hx : ownW a pu wo ha x) : ownW a pu wo ha x := hx
theorem S_ends (q : SaleAt M h a pu wo ha d K t) (hz : SzD d) (b : MB M h) : ∃ h', f_X12_ends N a h = some h' ∧ SaleAt M h' a pu wo ha (lotN d) K t ∧ FC (ownW a pu wo ha) 1 0 h h' := by
  obtain ⟨i0, i5, -⟩ := rd_ints q
  obtain ⟨h1, s1, q1, f1⟩ := S_int (k := 5) (v := d 3 + 1) (d' := upN d 3 (d 3 + 1)) q (by omega) (fun _ _ _ => rfl) (fun j hj => upN_ne (by omega))
  have w1 : nwQ 5 h1 (nI 0) = _ := nwQ5_of (by omega)
  have fn : FC nW 1 0 h1 (hNew h1 (rfA 0 5 (fun _ => none)) 0) := FC_new
  have hz1 : SzD (upN d 3 (d 3 + 1)) := SzD_up hz ⟨by omega, by omega, fun q _ => by omega⟩
  obtain ⟨h2, s2, q2, f2⟩ := S_bi (d' := upN (upN d 3 (d 3 + 1)) 5 0) (SaleAt_nW q1 fn) hz1 (fun j h5 _ => upN_ne h5) (CardsAt_mk (g := fun _ => none) (m := 0) (MB_fc b f1) (fun i hi => absurd hi (Nat.not_lt_zero i)))
  obtain ⟨h3, s3, q3, f3⟩ := S_int (k := 8) (v := 0) (d' := upN (upN (upN d 3 (d 3 + 1)) 5 0) 6 0) q2 (by omega) (fun _ _ _ => rfl) (fun j hj => upN_ne (by omega))
  obtain ⟨h4, s4, q4, f4⟩ := S_int (k := 9) (v := 0) (d' := upN (upN (upN (upN d 3 (d 3 + 1)) 5 0) 6 0) 7 0) q3 (by omega) (fun _ _ _ => rfl) (fun j hj => upN_ne (by omega))
  refine ⟨h4, ?_, SaleAt_ext q4 (fun j => ?_), FC_mono (FC_tr f1 (FC_tr (FC_ow fn (Nat.le_refl _) (Nat.le_refl _) nW_ow) (FC_tr f2 (FC_tr f3 f4)))) (by omega) (by omega) (fun _ _ h => h)⟩
  · simp only [f_X12_ends, i5, nlit, nadd, s1, w1, s2, s3, s4, Option.bind_some]
  · show (if j = 6 then 0 else if j = 7 then 0 else _) = (if j = 7 then 0 else if j = 6 then 0 else _)
    by_cases h6 : j = 6
    · rw [if_pos h6, if_neg (by omega), if_pos h6]
    · rw [if_neg h6]
      by_cases h7 : j = 7
      · rw [if_pos h7, if_pos h7]
      · rw [if_neg h7, if_neg h7, if_neg h6]
theorem SzD_lot (hz : SzD d) : SzD (lotN d) := SzD_up (SzD_up (SzD_up (SzD_up hz ⟨by omega, by omega, fun q _ => by omega⟩) ⟨by omega, by omega, fun q _ => by omega⟩) ⟨by omega, by omega, fun q _ => by omega⟩) ⟨by omega, by omega, fun q _ => by omega⟩
theorem S_turn {w : Bool} (q : SaleAt M h a pu wo ha d K t) (hz : SzD d) (h4 : d 4 < d 1) : ∃ h', f_X12_finish_j78 N a (b2 w) h = some (b2 w, h') ∧ f_X12_pass_j49 N a (b2 w) h = some (b2 w, h') ∧ SaleAt M h' a pu wo ha (turnN d) K t ∧ FC (ownW a pu wo ha) 0 0 h h' := by
  obtain ⟨i0, i5, i6, -⟩ := rd_ints q
  obtain ⟨r1, r2, r3, r4, r5, r6⟩ := rd_rows q
  have z1 := hz.1
  have e1 : zremI (nI (d 4 + 1)) (nI (d 1)) = some (nI ((d 4 + 1) % d 1)) := nremI (by omega) (by omega) (by omega)
  obtain ⟨h1, s1, q1, f1⟩ := S_int (k := 6) (v := (d 4 + 1) % d 1) (d' := turnN d) q (by omega) (fun _ _ _ => rfl) (fun j hj => upN_ne (by omega))
  have b1 : (b2 true = nI 0) = False := eq_false (by decide)
  have b0 : (b2 false = nI 0) = True := eq_true rfl
  have c1 : nI 1 = b2 true := rfl
  have c0 : nI 0 = b2 false := rfl
  refine ⟨h1, ?_, ?_, q1, f1⟩
  · cases w
    · simp only [f_X12_finish_j78, i6, r1, r4, nlit, nadd, e1, s1, b0, Option.bind_some, ↓reduceIte]; rfl
    · simp only [f_X12_finish_j78, i6, r1, r4, nlit, nadd, e1, s1, b1, Option.bind_some, ↓reduceIte]; rfl
  · cases w
    · simp only [f_X12_pass_j49, i6, r1, r4, nlit, nadd, e1, s1, b0, Option.bind_some, ↓reduceIte]; rfl
    · simp only [f_X12_pass_j49, i6, r1, r4, nlit, nadd, e1, s1, b1, Option.bind_some, ↓reduceIte]; rfl
theorem sum_le (hD : GoodD d) (hp : p < d 1) : d (11 + 19 * p) + d 6 + d 8 ≤ 619983 ∧ (d 3 < d 2 → d (11 + 19 * p) + d 6 + d (106 + d 3) ≤ 619983) := by
  have hm := hD.2.2.2.2
  have := sumP_ge d (d 1) hp
  constructor
  · unfold monN at hm; omega
  · intro h3
    have := mon_open h3
    omega
theorem S_finish (hNN : 1000 < N) (q : SaleAt M h a pu wo ha d K t) (hD : GoodD d) (ho : overN d = false) (b : MB M h) : ∃ h', f_X12_finish N a h = some (b2 (winN d), h') ∧ SaleAt M h' a pu wo ha (finN d (d 4)) K t ∧ FC (ownW a pu wo ha) 22 105 h h' := by
  obtain ⟨o1, o3⟩ := overN_false ho
  have h4 : d 4 < d 1 := by have := hD.1.2.2.2.2.1; omega
  have hz := SzD_of hD
  have g5 : d 5 ≤ 20 := hD.1.2.2.2.2.2.1
  obtain ⟨h1, s1, q1, f1⟩ := S_int (k := 9) (v := 0) (d' := upN d 7 0) q (by omega) (fun _ _ _ => rfl) (fun j hj => upN_ne (by omega))
  have hz1 : SzD (upN d 7 0) := SzD_up hz ⟨by omega, by omega, fun q _ => by omega⟩
  have hB : BdD (upN d 7 0) := ⟨hD.1.1, g5, fun i hi => by rw [bidE_up (by omega) (by omega)]; exact (BdD_of hD).2.2 i hi⟩
  obtain ⟨bi, e1, e2, -⟩ := rd_bids q1
  have e2' : aLen h1 bi = some (nI (d 5)) := e2
  have b1 : (b2 true = nI 0) = False := eq_false (by decide)
  have b0 : (b2 false = nI 0) = True := eq_true rfl
  -- the turn after no win
  have noWin : ∀ (h2 : zH), winN d = false → SaleAt M h2 a pu wo ha (upN d 7 0) K t → ∃ h', f_X12_finish_j33 N a h2 = some (b2 (winN d), h') ∧ SaleAt M h' a pu wo ha (finN d (d 4)) K t ∧ FC (ownW a pu wo ha) 0 0 h2 h' := fun h2 hw q2 => by
    obtain ⟨h', t1, -, t2, t3⟩ := S_turn (N := N) (w := false) q2 hz1 h4
    refine ⟨h', ?_, ?_, t3⟩
    · rw [hw, f_X12_finish_j33, f_X12_finish_j34, show (0 : Int32) = b2 false from rfl, if_pos rfl, t1]
    · unfold finN
      rw [hw]
      exact t2
  by_cases h5 : d 5 = 0
  · have hw : winN d = false := by
      unfold winN
      rw [h5]; rfl
    obtain ⟨h', t1, t2, t3⟩ := noWin h1 hw q1
    refine ⟨h', ?_, t2, FC_mono (FC_tr f1 t3) (by omega) (by omega) (fun _ _ h => h)⟩
    simp (disch := omega) only [f_X12_finish, nlit, s1, e1, e2', h5, nleT, t1, Option.bind_some, ↓reduceIte]
  · obtain ⟨h2, v, p1, p2, p3, p4, p5⟩ := L_productB (N := N) hNN hB q1
    have n1 := L_isNeutral (N := N) hNN hD.1.1 p5 p3
    have q2 := SaleAt_nW q1 p2
    have fo := FC_ow (a := a) (pu := pu) (wo := wo) (ha := ha) p2 (Nat.le_refl _) (Nat.le_refl _) nW_ow
    have o12' : ∀ F : Option (Nat × zH), onO 12 a h1 F = F := fun F => o12 q1
    have pe : prodF (bidE (upN d 7 0)) (upN d 7 0 5) 0 0 = prodF (bidE d) (d 5) 0 0 := by rw [bidE_up (by omega) (by omega)]; rfl
    rw [pe] at n1
    have p1' : f_X12_product N a (nI 0) (nI (d 5)) h1 = some (v, h2) := p1
    by_cases hw : winN d = true
    · have hw2 := (winN_iff d).mp hw
      have dn : decide (prodF (bidE d) (d 5) 0 0 = 0) = true := decide_eq_true hw2.2
      rw [dn] at n1
      obtain ⟨j0, j5, j6, j8, j9, j10⟩ := rd_ints q2
      obtain ⟨lo, l1, l2, l3⟩ := rd_lots q2 hz1.2.1
      obtain ⟨r1, r2, r3, r4, r5, r6⟩ := rd_rows q2
      have sl := sum_le hD h4
      obtain ⟨h3, s3, q3, f3⟩ := S_pay (N := N) (x := d (106 + d 3) + d 6) q2 hz1 (show d 4 < upN d 7 0 1 from h4) (by rw [upN_ne (by omega)]; have := sl.2 o3; omega)
      rw [upN_ne (by omega)] at q3
      have hz3 : SzD (upN (upN d 7 0) (11 + 19 * d 4) (d (11 + 19 * d 4) + (d (106 + d 3) + d 6))) := SzD_up hz1 ⟨by omega, by omega, fun q _ => by omega⟩
      have w4 : d (11 + 19 * d 4 + 2) ≤ d 3 := (hD.2.2.2.1 (d 4) h4).2.1
      have g2 := hz.2.1
      obtain ⟨x1, x2, x3, -⟩ := rd_rows q3
      obtain ⟨y0, y5, y6, y8, y9, y10⟩ := rd_ints q3
      have a0 : ∀ {x y}, upN (upN d 7 0) (11 + 19 * x) y 1 = d 1 := fun {x y} => by rw [upN_ne (by omega), upN_ne (by omega)]
      have a4 : ∀ {x y}, upN (upN d 7 0) (11 + 19 * x) y 4 = d 4 := fun {x y} => by rw [upN_ne (by omega), upN_ne (by omega)]
      obtain ⟨z1, z2, -⟩ := rd_play q3 (show d 4 < _ by rw [a0]; exact h4) hz3.1
      have a2 : upN (upN d 7 0) (11 + 19 * d 4) (d (11 + 19 * d 4) + (d (106 + d 3) + d 6)) (11 + 19 * d 4 + 2) = d (11 + 19 * d 4 + 2) := by rw [upN_ne (by omega), upN_ne (by omega)]
      rw [a2] at z2
      obtain ⟨h4', s4, q4, f4⟩ := S_wo (v := d (11 + 19 * d 4 + 2) + 1) (d' := upN (upN (upN d 7 0) (11 + 19 * d 4) (d (11 + 19 * d 4) + (d (106 + d 3) + d 6))) (11 + 19 * d 4 + 2) (d (11 + 19 * d 4 + 2) + 1)) q3 hz3 (show d 4 < _ by rw [a0]; exact h4) (fun j hj => upN_ne hj) (upN_eq _ _ _)
      have hz4 : SzD (upN (upN (upN d 7 0) (11 + 19 * d 4) (d (11 + 19 * d 4) + (d (106 + d 3) + d 6))) (11 + 19 * d 4 + 2) (d (11 + 19 * d 4 + 2) + 1)) := SzD_up hz3 ⟨by omega, by omega, fun q _ => by omega⟩
      have bb := MB_fc (MB_fc (MB_fc (MB_fc b f1) p2) f3) f4
      obtain ⟨h5', s5, q5, f5⟩ := S_ends (N := N) q4 hz4 bb
      have hpay : lotN (upN (upN (upN d 7 0) (11 + 19 * d 4) (d (11 + 19 * d 4) + (d (106 + d 3) + d 6))) (11 + 19 * d 4 + 2) (d (11 + 19 * d 4 + 2) + 1)) = payN (upN d 7 0) (d 4) := by
        unfold payN
        rw [upN_ne (by omega), upN_ne (by omega), upN_ne (by omega), upN_ne (by omega), upN_ne (by omega)]
      rw [hpay] at q5
      have q5z : SzD (payN (upN d 7 0) (d 4)) := by rw [← hpay]; exact SzD_lot hz4
      have b4 : payN (upN d 7 0) (d 4) 4 < payN (upN d 7 0) (d 4) 1 := by
        simp (disch := omega) only [payN, lotN, upN_ne]
        exact h4
      obtain ⟨h6, s6, -, q6, f6⟩ := S_turn (N := N) (w := true) q5 q5z b4
      refine ⟨h6, ?_, ?_, FC_mono (FC_tr f1 (FC_tr fo (FC_tr f3 (FC_tr f4 (FC_tr f5 f6))))) (by omega) (by omega) (fun _ _ h => h)⟩
      · have m1 : gI h2 a 12 6 = some (nI (d 4)) := j6
        have m2 : gI h2 a 12 5 = some (nI (d 3)) := j5
        have m3 : ldI h2 lo (nI (d 3)) = some (nI (d (106 + d 3))) := by
          rw [l3 (d 3) o3, upN_ne (by omega)]
        have m4 : gI h2 a 12 8 = some (nI (d 6)) := j8
        have m5 : gI h3 a 12 6 = some (nI (d 4)) := by rw [y6, a4]
        have oA : ∀ F : Option zH, onO 12 a h2 F = F := fun F => o12 q2
        have oB : ∀ F : Option zH, onO 12 a h4' F = F := fun F => o12 q4
        have nn : nI 1 = b2 true := rfl
        rw [hw]
        simp (disch := omega) only [f_X12_finish, nlit, s1, e1, e2', nleF, o12', p1', n1, b1, Option.bind_some, ↓reduceIte]
        rw [f_X12_finish_j34, if_neg (show ¬ (nI 1 = 0) by decide)]
        simp only [m1, l1, m2, m3, m4, nadd, oA, s3, x2, m5, z2, nlit, s4, oB, s5, Option.bind_some]
        exact s6
      · unfold finN
        rw [hw]
        exact q6
    · have hw' : winN d = false := by
        cases hx : winN d
        · rfl
        · exact absurd hx hw
      have dn : decide (prodF (bidE d) (d 5) 0 0 = 0) = false := decide_eq_false (fun hx => hw ((winN_iff d).mpr ⟨by omega, hx⟩))
      rw [dn] at n1
      obtain ⟨h', t1, t2, t3⟩ := noWin h2 hw' q2
      refine ⟨h', ?_, t2, FC_mono (FC_tr f1 (FC_tr fo t3)) (by omega) (by omega) (fun _ _ h => h)⟩
      simp (disch := omega) only [f_X12_finish, nlit, s1, e1, e2', nleF, o12', p1', n1, b0, t1, Option.bind_some, ↓reduceIte]
theorem S_pass (q : SaleAt M h a pu wo ha d K t) (hD : GoodD d) (ho : overN d = false) (b : MB M h) : ∃ h', f_X12_pass N a h = some (b2 (decide (d 7 + 1 = d 1)), h') ∧ SaleAt M h' a pu wo ha (passN d) K t ∧ FC (ownW a pu wo ha) 1 0 h h' := by
  obtain ⟨o1, o3⟩ := overN_false ho
  have h4 : d 4 < d 1 := by have := hD.1.2.2.2.2.1; omega
  have h7 : d 7 < d 1 := by have := hD.1.2.2.2.2.2.2; omega
  have hz := SzD_of hD
  have z1 := hz.1
  obtain ⟨i0, i5, i6, i8, i9, i10⟩ := rd_ints q
  obtain ⟨h1, s1, q1, f1⟩ := S_int (k := 9) (v := d 7 + 1) (d' := upN d 7 (d 7 + 1)) q (by omega) (fun _ _ _ => rfl) (fun j hj => upN_ne (by omega))
  have hz1 : SzD (upN d 7 (d 7 + 1)) := SzD_up hz ⟨by omega, by omega, fun q _ => by omega⟩
  obtain ⟨j0, j5, j6, j8, j9, j10⟩ := rd_ints q1
  obtain ⟨r1, r2, r3, r4, r5, r6⟩ := rd_rows q1
  have m9 : gI h1 a 12 9 = some (nI (d 7 + 1)) := j9
  have m1 : aLen h1 pu = some (nI (d 1)) := r4
  have b1 : (b2 true = nI 0) = False := eq_false (by decide)
  have b0 : (b2 false = nI 0) = True := eq_true rfl
  by_cases hc : d 7 + 1 = d 1
  · have sl := sum_le hD h4
    have m8 : gI h1 a 12 8 = some (nI (d 6)) := j8
    have m10 : gI h1 a 12 10 = some (nI (d 8)) := j10
    obtain ⟨h2, s2, q2, f2⟩ := S_int (k := 10) (v := d 8 + d 6) (d' := upN (upN d 7 (d 7 + 1)) 8 (d 8 + d 6)) q1 (by omega) (fun _ _ _ => rfl) (fun j hj => upN_ne (by omega))
    have hz2 : SzD (upN (upN d 7 (d 7 + 1)) 8 (d 8 + d 6)) := SzD_up hz1 ⟨by omega, by omega, fun q _ => by omega⟩
    obtain ⟨h3, s3, q3, f3⟩ := S_ends (N := N) q2 hz2 (MB_fc (MB_fc b f1) f2)
    have b4 : lotN (upN (upN d 7 (d 7 + 1)) 8 (d 8 + d 6)) 4 < lotN (upN (upN d 7 (d 7 + 1)) 8 (d 8 + d 6)) 1 := h4
    obtain ⟨h5, -, s5, q5, f5⟩ := S_turn (N := N) (w := true) q3 (SzD_lot hz2) b4
    have oA : ∀ F : Option zH, onO 12 a h2 F = F := fun F => o12 q2
    refine ⟨h5, ?_, ?_, FC_mono (FC_tr f1 (FC_tr f2 (FC_tr f3 f5))) (by omega) (by omega) (fun _ _ h => h)⟩
    · rw [decide_eq_true hc]
      simp (disch := omega) only [f_X12_pass, i9, nlit, nadd, s1, m9, r1, m1, neqT, Option.bind_some, ↓reduceIte]
      rw [f_X12_pass_j27, if_neg (show ¬ (nI 1 = 0) by decide)]
      simp only [m8, m10, nadd, s2, oA, s3, Option.bind_some]
      exact s5
    · unfold passN
      rw [if_pos hc]
      exact q5
  · obtain ⟨h5, -, s5, q5, f5⟩ := S_turn (N := N) (w := false) q1 hz1 h4
    refine ⟨h5, ?_, ?_, FC_mono (FC_tr f1 f5) (by omega) (by omega) (fun _ _ h => h)⟩
    · rw [decide_eq_false hc]
      simp (disch := omega) only [f_X12_pass, i9, nlit, nadd, s1, m9, r1, m1, neqF, Option.bind_some, ↓reduceIte]
      rw [f_X12_pass_j27, if_pos (show nI 0 = 0 from rfl)]
      exact s5
    · unfold passN
      rw [if_neg hc]
      exact q5
end M68

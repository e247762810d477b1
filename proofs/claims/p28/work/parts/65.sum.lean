/-! ===== the law's sum ===== -/
section M65
variable {M W : Nat → Prop} {h h' : zH} {c m N a pu wo ha K n p : Nat} {d t : Nat → Nat}
theorem rd_ints (q : SaleAt M h a pu wo ha d K t) : gI h a 12 0 = some (nI (d 0)) ∧ gI h a 12 5 = some (nI (d 3)) ∧ gI h a 12 6 = some (nI (d 4)) ∧ gI h a 12 8 = some (nI (d 6)) ∧ gI h a 12 9 = some (nI (d 7)) ∧ gI h a 12 10 = some (nI (d 8)) := by
  obtain ⟨lo, bi, tv, h1, -⟩ := q
  exact ⟨gI_of' h1 rfl, gI_of' h1 rfl, gI_of' h1 rfl, gI_of' h1 rfl, gI_of' h1 rfl, gI_of' h1 rfl⟩
theorem rd_rows (q : SaleAt M h a pu wo ha d K t) : gA h a 12 1 = some pu ∧ gA h a 12 2 = some wo ∧ gA h a 12 3 = some ha ∧ aLen h pu = some (nI (d 1)) ∧ aLen h wo = some (nI (d 1)) ∧ aLen h ha = some (nI (d 1)) := by
  obtain ⟨lo, bi, tv, h1, h2, fp, fw, fl, gh, c1, c2, c3, c4⟩ := q
  exact ⟨gA_of' h1 rfl, gA_of' h1 rfl, gA_of' h1 rfl, aLen_of' c1 (by decide), aLen_of' c2 (by decide), aLen_of' c3 (by decide)⟩
theorem rd_lots (q : SaleAt M h a pu wo ha d K t) (h2 : d 2 ≤ 12) : ∃ lo, gA h a 12 4 = some lo ∧ aLen h lo = some (nI (d 2)) ∧ ∀ l, l < d 2 → ldI h lo (nI l) = some (nI (d (106 + l))) := by
  obtain ⟨lo, bi, tv, h1, -, fp, fw, fl, gh, c1, c2, c3, c4, c5, c6, c7⟩ := q
  exact ⟨lo, gA_of' h1 rfl, aLen_of' c4.1 (by decide), fun l hl => by rw [ldI_of' c4.1 hl (by omega), c6 l hl]⟩
theorem rd_play (q : SaleAt M h a pu wo ha d K t) (hp : p < d 1) (h1 : d 1 ≤ 5) : ldI h pu (nI p) = some (nI (d (11 + 19 * p))) ∧ ldI h wo (nI p) = some (nI (d (11 + 19 * p + 2))) ∧ ∃ r, ldQ h ha (nI p) = some r ∧ aLen h r = some (nI (d (11 + 19 * p + 1))) ∧ CardsAt M h r (d 0) (d (11 + 19 * p + 1)) (fun c => idxN (d 0) (d (11 + 19 * p + 3 + 2 * c))) (fun c => d (11 + 19 * p + 3 + 2 * c + 1)) (fun _ _ => True) := by
  obtain ⟨lo, bi, tv, h1, h2, fp, fw, fl, gh, c1, c2, c3, c4, c5, c6, c7⟩ := q
  obtain ⟨a1, a2, r, a3, a4⟩ := c5 p hp
  refine ⟨by rw [ldI_of' c1 hp (by omega), a1], by rw [ldI_of' c2 hp (by omega), a2], r, ldQ_of' c3 (by omega) hp (by omega) a3, ?_, a4⟩
  obtain ⟨g, b1, -⟩ := a4
  exact aLen_of' b1.1 (by decide)
theorem rd_bids (q : SaleAt M h a pu wo ha d K t) : ∃ bi, gA h a 12 7 = some bi ∧ aLen h bi = some (nI (d 5)) ∧ CardsAt M h bi (d 0) (d 5) (bidE d) (fun b => d (118 + 3 * b + 2)) (fun b x => x = nI (d (118 + 3 * b))) := by
  obtain ⟨lo, bi, tv, h1, h2, fp, fw, fl, gh, c1, c2, c3, c4, c5, c6, c7, c8⟩ := q
  refine ⟨bi, gA_of' h1 rfl, ?_, c7⟩
  obtain ⟨g, b1, -⟩ := c7
  exact aLen_of' b1.1 (by decide)
theorem rd_card {r cnt i : Nat} {E B : Nat → Nat} {Q : Nat → Int32 → Prop} (q : CardsAt M h r n cnt E B Q) (hi : i < cnt) (hc : cnt ≤ 20) : ∃ (k er : Nat) (pl : Int32), ldQ h r (nI i) = some k ∧ gI h k 9 0 = some pl ∧ gA h k 9 1 = some er ∧ gI h k 9 2 = some (nI (B i)) ∧ hM h k = some (.inr (9, [.int pl, .ref er, .int (nI (B i))])) ∧ k < hS h ∧ RowE h er n (E i) ∧ er < hS h ∧ Q i pl ∧ RowAt M h er n (E i) := by
  obtain ⟨g, h1, h2⟩ := q
  obtain ⟨k, er, pl, k1, k2, k3, k4⟩ := h2 i hi
  obtain ⟨f, k5, k6⟩ := id k4
  exact ⟨k, er, pl, ldQ_of' h1.1 (by omega) hi (by omega) k1, gI_of' k2.1 rfl, gA_of' k2.1 rfl, gI_of' k2.1 rfl, k2.1, k2.2.1, RowAt_E k4, k5.2.1, k3, k4⟩
theorem SaleAt_nW (q : SaleAt M h a pu wo ha d K t) (f : FC nW c m h h') : SaleAt M h' a pu wo ha d K t := SaleAt_fc q f (fun y hy => hy.elim) (fun x _ h => h)
theorem CardsAt_nW {r cnt : Nat} {E B : Nat → Nat} {Q : Nat → Int32 → Prop} (q : CardsAt M h r n cnt E B Q) (f : FC nW c m h h') : CardsAt M h' r n cnt E B Q := CardsAt_fc q f (fun y hy => hy.elim)
theorem good_card {i : Nat} (hD : GoodD d) (hp : p < d 1) (hi : i < d (11 + 19 * p + 1)) : idxN (d 0) (d (11 + 19 * p + 3 + 2 * i)) < fctN (d 0) ∧ d (11 + 19 * p + 3 + 2 * i) = numN (d 0) (idxN (d 0) (d (11 + 19 * p + 3 + 2 * i))) ∧ d (11 + 19 * p + 3 + 2 * i + 1) ≤ 999 := by
  obtain ⟨g, gb, gl, gp, gm⟩ := hD
  obtain ⟨p1, p2, p3⟩ := gp p hp
  obtain ⟨p4, p5⟩ := p3 i hi
  obtain ⟨i1, i2⟩ := isN_idx g.1 p4
  exact ⟨i1, i2, p5⟩
theorem good_bid {i : Nat} (hD : GoodD d) (hi : i < d 5) : bidE d i < fctN (d 0) ∧ d (118 + 3 * i + 1) = numN (d 0) (bidE d i) ∧ d (118 + 3 * i) < d 1 ∧ d (118 + 3 * i + 2) ≤ 9999 := by
  obtain ⟨g, gb, gl, gp, gm⟩ := hD
  obtain ⟨b1, b2, b3⟩ := gb i hi
  obtain ⟨i1, i2⟩ := isN_idx g.1 b2
  exact ⟨i1, i2, b1, b3⟩
theorem L_sum_cards {r0 : Nat} {k1 : Int64 → zH → Option (Int64 × zH)} (hNN : 1000 < N) (hD : GoodD d) (hp : p < d 1) : ∀ (r i fu : Nat) (v : Int64) (h : zH), i + r = d (11 + 19 * p + 1) → r < fu → SaleAt M h a pu wo ha d K t → CardsAt M h r0 (d 0) (d (11 + 19 * p + 1)) (fun c => idxN (d 0) (d (11 + 19 * p + 3 + 2 * c))) (fun c => d (11 + 19 * p + 3 + 2 * c + 1)) (fun _ _ => True) → ∃ h', f_X12_sum_l95 N a (nI p) r0 (nI (d (11 + 19 * p + 1))) k1 fu v (nI i) h = k1 (cardsF d K t p r i v) h' ∧ FC nW (6 * r) (29 * r) h h' := by
  have c8 : d (11 + 19 * p + 1) ≤ 8 := (hD.2.2.2.1 p hp).1
  have g0 := hD.1.1
  intro r
  induction r with
  | zero =>
    intro i fu v h hi hf q qc
    obtain ⟨f, rfl⟩ : ∃ f, fu = f + 1 := ⟨fu - 1, by omega⟩
    refine ⟨h, ?_, FC_rf⟩
    rw [f_X12_sum_l95]
    simp (disch := omega) only [nleT, ↓reduceIte]
    rfl
  | succ r ih =>
    intro i fu v h hi hf q qc
    obtain ⟨f, rfl⟩ : ∃ f, fu = f + 1 := ⟨fu - 1, by omega⟩
    obtain ⟨k, er, pl, e1, e2, e3, e4, e5, e6, e7, e8, -⟩ := rd_card qc (show i < _ by omega) (by omega)
    obtain ⟨i1, i2, i3⟩ := good_card hD hp (show i < d (11 + 19 * p + 1) by omega)
    have n1 := L_number (N := N) hNN g0 i1 e7
    obtain ⟨h1, p1, p2⟩ := L_price (N := N) hNN hD q e5 e6 i1 e7 e8 (by omega)
    have o1 : ∀ F : Option (Int32 × zH), onO 12 a h F = F := fun F => o12 q
    obtain ⟨h', j1, j2⟩ := ih (i + 1) f (ckF (cardV d K t p i) 3 0 v) h1 (by omega) (by omega) (SaleAt_nW q p2) (CardsAt_nW qc p2)
    refine ⟨h', ?_, FC_mono (FC_tr p2 j2) (by omega) (by omega) (fun _ _ h => h)⟩
    have ev : (31 : Int64) * ((31 : Int64) * ((31 : Int64) * v + (nI (numN (d 0) (idxN (d 0) (d (11 + 19 * p + 3 + 2 * i))))).toInt64) + (nI (d (11 + 19 * p + 3 + 2 * i + 1))).toInt64) + (nI (priN (evJ (tokV (d (11 + 19 * p + 3 + 2 * i + 1)) (ordN (idxN (d 0) (d (11 + 19 * p + 3 + 2 * i)))) (d 5) (d 6)) t (fun _ => 0) K 0))).toInt64 = ckF (cardV d K t p i) 3 0 v := by
      rw [← i2]; rfl
    rw [f_X12_sum_l95]
    simp (disch := omega) only [e1, e3, e4, n1, o1, p1, nleF, nlit, nadd, ev, j1, Option.bind_some, ↓reduceIte]
    rfl
theorem L_sum_plays {k1 : Int64 → zH → Option (Int64 × zH)} (hNN : 1000 < N) (hD : GoodD d) : ∀ (r p fu : Nat) (v : Int64) (h : zH), p + r = d 1 → r < fu → SaleAt M h a pu wo ha d K t → ∃ h', f_X12_sum_l31 N a k1 fu v (nI p) h = k1 (playsF d K t r p v) h' ∧ FC nW (48 * r) (232 * r) h h' := by
  have g1 := hD.1.2.1
  intro r
  induction r with
  | zero =>
    intro p fu v h hi hf q
    obtain ⟨f, rfl⟩ : ∃ f, fu = f + 1 := ⟨fu - 1, by omega⟩
    obtain ⟨a1, a2, a3, a4, a5, a6⟩ := rd_rows q
    refine ⟨h, ?_, FC_rf⟩
    rw [f_X12_sum_l31]
    simp (disch := omega) only [a1, a4, nleT, Option.bind_some, ↓reduceIte]
    rfl
  | succ r ih =>
    intro p fu v h hi hf q
    obtain ⟨f, rfl⟩ : ∃ f, fu = f + 1 := ⟨fu - 1, by omega⟩
    obtain ⟨a1, a2, a3, a4, a5, a6⟩ := rd_rows q
    obtain ⟨b1, b2, r0, b3, b4, b5⟩ := rd_play q (show p < d 1 by omega) g1
    have c8 : d (11 + 19 * p + 1) ≤ 8 := (hD.2.2.2.1 p (by omega)).1
    obtain ⟨h1, j1, j2⟩ := L_sum_cards (N := N) (k1 := fun (u21 : Int64) (h22 : zH) => f_X12_sum_l31 N a k1 f u21 (nI p + (1 : Int32)) h22) hNN hD (show p < d 1 by omega) (d (11 + 19 * p + 1)) 0 N (ckF (fun w => nI (d (11 + 19 * p + w))) 3 0 v) h (by omega) (by omega) q b5
    obtain ⟨h', i1, i2⟩ := ih (p + 1) f (cardsF d K t p (d (11 + 19 * p + 1)) 0 (ckF (fun w => nI (d (11 + 19 * p + w))) 3 0 v)) h1 (by omega) (by omega) (SaleAt_nW q j2)
    refine ⟨h', ?_, FC_mono (FC_tr j2 i2) (by omega) (by omega) (fun _ _ h => h)⟩
    have ev : (31 : Int64) * ((31 : Int64) * ((31 : Int64) * v + (nI (d (11 + 19 * p))).toInt64) + (nI (d (11 + 19 * p + 1))).toInt64) + (nI (d (11 + 19 * p + 2))).toInt64 = ckF (fun w => nI (d (11 + 19 * p + w))) 3 0 v := rfl
    rw [f_X12_sum_l31]
    simp (disch := omega) only [a1, a2, a3, a4, b1, b2, b3, b4, nleF, ev, Option.bind_some, ↓reduceIte]
    rw [show (0 : Int32) = nI 0 from rfl, j1]
    simp (disch := omega) only [nlit, nadd, i1]
    rfl
theorem L_sum_bids {bi : Nat} {k1 : Int64 → zH → Option (Int64 × zH)} (hNN : 1000 < N) (hD : GoodD d) (qc : CardsAt M h bi (d 0) (d 5) (bidE d) (fun b => d (118 + 3 * b + 2)) (fun b x => x = nI (d (118 + 3 * b)))) : ∀ (r i fu : Nat) (v : Int64), i + r = d 5 → r < fu → f_X12_sum_l172 N a bi (nI (d 5)) k1 fu v (nI i) h = k1 (bidsF d r i v) h := by
  have g5 : d 5 ≤ 20 := hD.1.2.2.2.2.2.1
  intro r
  induction r with
  | zero =>
    intro i fu v hi hf
    obtain ⟨f, rfl⟩ : ∃ f, fu = f + 1 := ⟨fu - 1, by omega⟩
    rw [f_X12_sum_l172]
    simp (disch := omega) only [nleT, ↓reduceIte]
    rfl
  | succ r ih =>
    intro i fu v hi hf
    obtain ⟨f, rfl⟩ : ∃ f, fu = f + 1 := ⟨fu - 1, by omega⟩
    obtain ⟨k, er, pl, e1, e2, e3, e4, e5, e6, e7, e8, rfl, -⟩ := rd_card qc (show i < _ by omega) (by omega)
    obtain ⟨i1, i2, i3⟩ := good_bid hD (show i < d 5 by omega)
    have n1 := L_number (N := N) hNN hD.1.1 i1 e7
    have ev : (31 : Int64) * ((31 : Int64) * ((31 : Int64) * v + (nI (d (118 + 3 * i))).toInt64) + (nI (numN (d 0) (bidE d i))).toInt64) + (nI (d (118 + 3 * i + 2))).toInt64 = ckF (fun w => nI (d (118 + 3 * i + w))) 3 0 v := by
      rw [← i2]; rfl
    rw [f_X12_sum_l172]
    simp (disch := omega) only [e1, e2, e3, e4, n1, nleF, nlit, nadd, ev, ih, Option.bind_some, ↓reduceIte]
    rfl
theorem L_sum_told {k1 : Int64 → zH → Option (Int64 × zH)} (hD : GoodD d) (q : SaleAt M h a pu wo ha d K t) : ∀ (r i fu : Nat) (v : Int64), i + r = 9 → r < fu → f_X12_sum_l4 N a k1 fu v (nI i) h = k1 (ckF (toldN d) r i v) h := by
  have o1 : ∀ F : Option (Int32 × zH), onO 12 a h F = F := fun F => o12 q
  intro r
  induction r with
  | zero =>
    intro i fu v hi hf
    obtain ⟨f, rfl⟩ : ∃ f, fu = f + 1 := ⟨fu - 1, by omega⟩
    rw [f_X12_sum_l4]
    simp (disch := omega) only [nlit, nleT, ↓reduceIte]
    rfl
  | succ r ih =>
    intro i fu v hi hf
    obtain ⟨f, rfl⟩ : ∃ f, fu = f + 1 := ⟨fu - 1, by omega⟩
    have t1 := L_told (N := N) q hD (show i < 9 by omega)
    have ev : (31 : Int64) * v + (toldN d i).toInt64 = ck v (toldN d i) := rfl
    rw [f_X12_sum_l4]
    simp (disch := omega) only [nlit, nleF, o1, t1, nadd, ev, ih, Option.bind_some, ↓reduceIte]
    rfl
theorem L_sum (hNN : 1000 < N) (hD : GoodD d) (q : SaleAt M h a pu wo ha d K t) : ∃ h', f_X12_sum N a h = some (ckS d K t, h') ∧ FC nW 261 1265 h h' := by
  have g1 := hD.1.2.1
  have g5 : d 5 ≤ 20 := hD.1.2.2.2.2.2.1
  rw [f_X12_sum]
  rw [show (0 : Int32) = nI 0 from rfl, L_sum_told hD q 9 0 N 0 (by omega) (by omega)]
  obtain ⟨h1, j1, j2⟩ := L_sum_plays (N := N) (k1 := fun (u23 : Int64) (h24 : zH) => (gA h24 a 12 7).bind fun x25 => (aLen h24 x25).bind fun x26 => f_X12_sum_l172 N a x25 x26 (fun (u32 : Int64) (h33 : zH) => (gA h33 a 12 7).bind fun x34 => (aLen h33 x34).bind fun x35 => (onO 12 a h33 (f_X12_product N a (nI 0) x35 h33)).bind fun y36 => (f_L_number N y36.1 y36.2).bind fun y37 => some ((((31 : Int64) * u32) + y37.1.toInt64), y37.2)) N u23 (nI 0) h24) hNN hD (d 1) 0 N (ckF (toldN d) 9 0 0) h (by omega) (by omega) q
  rw [j1]
  have q1 := SaleAt_nW q j2
  obtain ⟨bi, e1, e2, e3⟩ := rd_bids q1
  obtain ⟨h2, v, p1, p2, p3, p4, p5⟩ := L_product (N := N) hNN hD q1
  have o1 : ∀ F : Option (Nat × zH), onO 12 a h1 F = F := fun F => o12 q1
  have n1 := L_number (N := N) hNN hD.1.1 p5 p3
  refine ⟨h2, ?_, FC_mono (FC_tr j2 p2) (by omega) (by omega) (fun _ _ h => h)⟩
  simp only [e1, e2, Option.bind_some]
  rw [L_sum_bids hNN hD e3 (d 5) 0 N _ (by omega) (by omega)]
  simp only [e1, e2, o1, p1, n1, Option.bind_some]
  rfl
end M65

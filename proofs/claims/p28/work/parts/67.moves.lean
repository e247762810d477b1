/-! ===== the law's moves ===== -/
def MB (M : Nat → Prop) (h : zH) : Prop := ∀ x, M x → x < hS h
def SzD (d : Nat → Nat) : Prop := d 1 ≤ 5 ∧ d 2 ≤ 12 ∧ ∀ p, p < d 1 → d (11 + 19 * p + 1) ≤ 8
def sk (c j : Nat) : Nat := if j < c then j else j + 1
section M67
variable {M M' W : Nat → Prop} {h h' : zH} {c m N a pu wo ha lo bi K n p : Nat} {tv : Value} {d d' t : Nat → Nat}
theorem MB_fc (b : MB M h) (f : FC W c m h h') : MB M h' := fun x hx => Nat.lt_of_lt_of_le (b x hx) f.1.1
theorem SzD_of (hD : GoodD d) : SzD d := ⟨hD.1.2.1, hD.1.2.2.1, fun p hp => (hD.2.2.2.1 p hp).1⟩
theorem put_self {e : zE} (hm : hM h a = some e) : hPut h a e = h := zH_ext rfl rfl fun q => by
  show (if q = a then some e else h.2.2 q) = h.2.2 q
  by_cases hq : q = a
  · rw [if_pos hq, hq]; exact hm.symm
  · rw [if_neg hq]
theorem stQ_of' {x i : Nat} {g : Nat → Option Nat} {fs : List Value} (hm : hM h a = some (rfA n 5 g)) (hv : hM h x = some (.inr (9, fs))) (hi : i < n) (hn : i < 2 ^ 31) : stQ h a (nI i) x = some (hPut h a (rfA n 5 (va_up g i (some x)))) := by
  unfold stQ
  rw [hm, hv]
  dsimp only
  rw [nI_clamp hn, if_pos ⟨by omega, rfl, nI_nn hn, hi⟩]
theorem stR_of' {x i e : Nat} {g g2 : Nat → Option Nat} (hm : hM h a = some (rfA n 6 g)) (hv : hM h x = some (rfA e 5 g2)) (hi : i < n) (hn : i < 2 ^ 31) : stR h a (nI i) x = some (hPut h a (rfA n 6 (va_up g i (some x)))) := by
  unfold stR
  rw [hm, hv]
  dsimp only
  rw [nI_clamp hn, if_pos ⟨by omega, rfl, nI_nn hn, hi⟩]
theorem nwQ5_of (hn : n ≤ 100000) : nwQ 5 h (nI n) = some (hS h, hNew h (rfA n 5 (fun _ => none)) n) := by
  unfold nwQ
  rw [nI_clamp (by omega), if_pos ⟨by omega, nI_nn (by omega), hn⟩]
theorem nwR_of (hn : n ≤ 100000) : nwR h (nI n) = some (hS h, hNew h (rfA n 6 (fun _ => none)) n) := by
  unfold nwR
  rw [nI_clamp (by omega), if_pos ⟨nI_nn (by omega), hn⟩]
theorem vaq_eq {g : Nat → Option Nat} {i : Nat} {x : Option Nat} : va_up g i x i = x := if_pos rfl
theorem vaq_ne {g : Nat → Option Nat} {i j : Nat} {x : Option Nat} (hj : j ≠ i) : va_up g i x j = g j := if_neg hj
/-- a row and one more -/
theorem L_with_l {r0 k0 q cnt m9 : Nat} {gold : Nat → Option Nat} (h9 : cnt ≤ 20) (h8 : cnt ≤ m9) (hr : r0 ≠ q) : ∀ (r i fu : Nat) (g : Nat → Option Nat) (h : zH), i + r = cnt → r < fu → hM h r0 = some (rfA cnt 5 gold) → (∀ j, j < cnt → ∃ k fs, gold j = some k ∧ hM h k = some (.inr (9, fs)) ∧ k ≠ q) → hM h q = some (rfA m9 5 g) → (∀ j, j < i → g j = gold j) → ∃ g', (∀ k1, f_L_with_l10 N r0 k0 q k1 fu (nI i) h = k1 (hPut h q (rfA m9 5 g'))) ∧ ∀ j, j < cnt → g' j = gold j := by
  intro r
  induction r with
  | zero =>
    intro i fu g h hi hf h0 hc hq hg
    obtain ⟨f, rfl⟩ : ∃ f, fu = f + 1 := ⟨fu - 1, by omega⟩
    have l1 : aLen h r0 = some (nI cnt) := aLen_of' h0 (by decide)
    refine ⟨g, fun k1 => ?_, fun j hj => hg j (by omega)⟩
    rw [f_L_with_l10, put_self hq]
    simp (disch := omega) only [l1, nleT, Option.bind_some, ↓reduceIte]
  | succ r ih =>
    intro i fu g h hi hf h0 hc hq hg
    obtain ⟨f, rfl⟩ : ∃ f, fu = f + 1 := ⟨fu - 1, by omega⟩
    have l1 : aLen h r0 = some (nI cnt) := aLen_of' h0 (by decide)
    obtain ⟨k, fs, c1, c2, c3⟩ := hc i (by omega)
    have l2 : ldQ h r0 (nI i) = some k := ldQ_of' h0 (by omega) (by omega) (by omega) c1
    have l3 := stQ_of' hq c2 (show i < m9 by omega) (by omega)
    obtain ⟨g', i1, i2⟩ := ih (i + 1) f (va_up g i (some k)) (hPut h q (rfA m9 5 (va_up g i (some k)))) (by omega) (by omega) ((hM_put_ne hr).trans h0) (fun j hj => by
      obtain ⟨k', fs', d1, d2, d3⟩ := hc j hj
      exact ⟨k', fs', d1, (hM_put_ne d3).trans d2, d3⟩) hM_put_eq (fun j hj => by
      by_cases hji : j = i
      · subst hji; rw [vaq_eq, c1]
      · rw [vaq_ne hji, hg j (by omega)])
    refine ⟨g', fun k1 => ?_, i2⟩
    rw [f_L_with_l10]
    simp (disch := omega) only [l1, l2, l3, nleF, nlit, nadd, i1, put_put, Option.bind_some, ↓reduceIte]
theorem L_without_l {r0 q cnt c : Nat} {gold : Nat → Option Nat} (h9 : cnt + 1 ≤ 20) (hr : r0 ≠ q) : ∀ (r i fu : Nat) (g : Nat → Option Nat) (h : zH), i + r = cnt → r < fu → hM h r0 = some (rfA (cnt + 1) 5 gold) → (∀ j, j < cnt + 1 → ∃ k fs, gold j = some k ∧ hM h k = some (.inr (9, fs)) ∧ k ≠ q) → hM h q = some (rfA cnt 5 g) → (∀ j, j < i → g j = gold (sk c j)) → c < 1000 → ∃ g', f_L_without_l10 N r0 (nI c) q fu (nI i) h = some (q, hPut h q (rfA cnt 5 g')) ∧ ∀ j, j < cnt → g' j = gold (sk c j) := by
  intro r
  induction r with
  | zero =>
    intro i fu g h hi hf h0 hc hq hg hc9
    obtain ⟨f, rfl⟩ : ∃ f, fu = f + 1 := ⟨fu - 1, by omega⟩
    have l1 : aLen h q = some (nI cnt) := aLen_of' hq (by decide)
    refine ⟨g, ?_, fun j hj => hg j (by omega)⟩
    rw [f_L_without_l10, put_self hq]
    simp (disch := omega) only [l1, nleT, Option.bind_some, ↓reduceIte]
  | succ r ih =>
    intro i fu g h hi hf h0 hc hq hg hc9
    obtain ⟨f, rfl⟩ : ∃ f, fu = f + 1 := ⟨fu - 1, by omega⟩
    have l1 : aLen h q = some (nI cnt) := aLen_of' hq (by decide)
    have hsk : sk c i < cnt + 1 := by unfold sk; split <;> omega
    obtain ⟨k, fs, c1, c2, c3⟩ := hc (sk c i) hsk
    have l2 : ldQ h r0 (nI (sk c i)) = some k := ldQ_of' h0 (by omega) hsk (by omega) c1
    have l3 := stQ_of' hq c2 (show i < cnt by omega) (by omega)
    obtain ⟨g', i1, i2⟩ := ih (i + 1) f (va_up g i (some k)) (hPut h q (rfA cnt 5 (va_up g i (some k)))) (by omega) (by omega) ((hM_put_ne hr).trans h0) (fun j hj => by
      obtain ⟨k', fs', d1, d2, d3⟩ := hc j hj
      exact ⟨k', fs', d1, (hM_put_ne d3).trans d2, d3⟩) hM_put_eq (fun j hj => by
      by_cases hji : j = i
      · subst hji; rw [vaq_eq, c1]
      · rw [vaq_ne hji, hg j (by omega)]) hc9
    refine ⟨g', ?_, i2⟩
    rw [f_L_without_l10]
    by_cases hci : i < c
    · have e : sk c i = i := if_pos hci
      rw [e] at l2
      simp (disch := omega) only [l1, l2, l3, zjn, nleF, nlit, nadd, i1, put_put, Option.bind_some, ↓reduceIte]
    · have e : sk c i = i + 1 := if_neg hci
      rw [e] at l2
      simp (disch := omega) only [l1, l2, l3, zjn, nleF, nleT, nlit, nadd, i1, put_put, Option.bind_some, ↓reduceIte]
theorem CardsAt_mk {cnt : Nat} {E B : Nat → Nat} {Q : Nat → Int32 → Prop} {g : Nat → Option Nat} (b : MB M h) (hg : ∀ i, i < cnt → ∃ (k er : Nat) (pl : Int32), g i = some k ∧ IM M h k (.inr (9, [.int pl, .ref er, .int (nI (B i))])) ∧ Q i pl ∧ RowAt M h er n (E i)) : CardsAt M (hNew h (rfA cnt 5 g) m) (hS h) n cnt E B Q := by
  have f : FC nW 1 m h (hNew h (rfA cnt 5 g) m) := FC_new
  refine ⟨g, ⟨hM_new_eq, by rw [hS_new]; omega, fun hm => by have := b _ hm; omega⟩, fun i hi => ?_⟩
  obtain ⟨k, er, pl, k1, k2, k3, k4⟩ := hg i hi
  exact ⟨k, er, pl, k1, IM_fc k2 f (fun y hy => hy.elim) (fun σ e => by cases e), k3, RowAt_fc k4 f (fun y hy => hy.elim)⟩
theorem S_with {r0 k0 er cnt e bs : Nat} {pl : Int32} {E B E' B' : Nat → Nat} {Q Q' : Nat → Int32 → Prop} (hNN : 1000 < N) (q : CardsAt M h r0 n cnt E B Q) (b : MB M h) (h9 : cnt ≤ 19) (hk : IM M h k0 (.inr (9, [.int pl, .ref er, .int (nI bs)]))) (hr : RowAt M h er n e) (ho : ∀ i, i < cnt → E' i = E i ∧ B' i = B i ∧ ∀ x, Q i x → Q' i x) (hn : E' cnt = e ∧ B' cnt = bs ∧ Q' cnt pl) : ∃ g, f_L_with N r0 k0 h = some (hS h, hNew h (rfA (cnt + 1) 5 g) (cnt + 1)) ∧ CardsAt M (hNew h (rfA (cnt + 1) 5 g) (cnt + 1)) (hS h) n (cnt + 1) E' B' Q' := by
  obtain ⟨gold, h1, h2⟩ := q
  have w0 : nwQ 5 h (nI (cnt + 1)) = _ := nwQ5_of (by omega)
  have l1 : aLen h r0 = some (nI cnt) := aLen_of' h1.1 (by decide)
  have e1 := h1.2.1
  have e2 := hk.2.1
  obtain ⟨g, i1, i2⟩ := L_with_l (N := N) (k0 := k0) (r0 := r0) (q := hS h) (cnt := cnt) (m9 := cnt + 1) (by omega) (by omega) (by omega) cnt 0 N (fun _ => none) (hNew h (rfA (cnt + 1) 5 (fun _ => none)) (cnt + 1)) (by omega) (by omega) ((hM_new_ne (by omega)).trans h1.1) (fun j hj => by
    obtain ⟨k, er', pl', k1, k2, -⟩ := h2 j hj
    have := k2.2.1
    exact ⟨k, _, k1, (hM_new_ne (by omega)).trans k2.1, by omega⟩) hM_new_eq (fun j hj => absurd hj (by omega))
  have l3 : ∀ {x : Nat} {g' : Nat → Option Nat}, aLen (hNew h (rfA x 5 g') x) r0 = some (nI cnt) := fun {x g'} => aLen_of' ((hM_new_ne (by omega)).trans h1.1) (by decide)
  have l2 : stQ (hNew h (rfA (cnt + 1) 5 g) (cnt + 1)) (hS h) (nI cnt) k0 = some (hNew h (rfA (cnt + 1) 5 (va_up g cnt (some k0))) (cnt + 1)) := by
    rw [stQ_of' hM_new_eq ((hM_new_ne (by omega)).trans hk.1) (by omega) (by omega), new_put]
  refine ⟨va_up g cnt (some k0), ?_, CardsAt_mk b (fun i hi => ?_)⟩
  · rw [new_put] at i1
    rw [f_L_with]
    simp only [l1, nlit, nadd, w0, i1, l2, l3, Option.bind_some]
  · by_cases hic : i = cnt
    · subst hic
      exact ⟨k0, er, pl, vaq_eq, by rw [hn.2.1]; exact hk, hn.2.2, by rw [hn.1]; exact hr⟩
    · have hlt : i < cnt := by omega
      obtain ⟨k, er', pl', k1, k2, k3, k4⟩ := h2 i hlt
      obtain ⟨o1, o2, o3⟩ := ho i hlt
      exact ⟨k, er', pl', by rw [vaq_ne hic, i2 i hlt, k1], by rw [o2]; exact k2, o3 _ k3, by rw [o1]; exact k4⟩
theorem S_without {r0 cnt i0 : Nat} {E B E' B' : Nat → Nat} {Q Q' : Nat → Int32 → Prop} (hNN : 1000 < N) (q : CardsAt M h r0 n cnt E B Q) (b : MB M h) (h9 : cnt ≤ 20) (hi : i0 < cnt) (ho : ∀ i, i < cnt - 1 → E' i = E (sk i0 i) ∧ B' i = B (sk i0 i) ∧ ∀ x, Q (sk i0 i) x → Q' i x) : ∃ g, f_L_without N r0 (nI i0) h = some (hS h, hNew h (rfA (cnt - 1) 5 g) (cnt - 1)) ∧ CardsAt M (hNew h (rfA (cnt - 1) 5 g) (cnt - 1)) (hS h) n (cnt - 1) E' B' Q' := by
  obtain ⟨cnt, rfl⟩ : ∃ k, cnt = k + 1 := ⟨cnt - 1, by omega⟩
  rw [Nat.add_sub_cancel] at ho ⊢
  obtain ⟨gold, h1, h2⟩ := q
  have w0 : nwQ 5 h (nI cnt) = _ := nwQ5_of (by omega)
  have l1 : aLen h r0 = some (nI (cnt + 1)) := aLen_of' h1.1 (by decide)
  have e1 := h1.2.1
  obtain ⟨g, i1, i2⟩ := L_without_l (N := N) (r0 := r0) (q := hS h) (cnt := cnt) (c := i0) (by omega) (by omega) cnt 0 N (fun _ => none) (hNew h (rfA cnt 5 (fun _ => none)) cnt) (by omega) (by omega) ((hM_new_ne (by omega)).trans h1.1) (fun j hj => by
    obtain ⟨k, er', pl', k1, k2, -⟩ := h2 j hj
    have := k2.2.1
    exact ⟨k, _, k1, (hM_new_ne (by omega)).trans k2.1, by omega⟩) hM_new_eq (fun j hj => absurd hj (by omega)) (by omega)
  refine ⟨g, ?_, CardsAt_mk b (fun i hi => ?_)⟩
  · rw [new_put] at i1
    rw [f_L_without]
    simp (disch := omega) only [l1, nlit, nsub, Nat.add_sub_cancel, w0, i1, Option.bind_some]
  · obtain ⟨k, er', pl', k1, k2, k3, k4⟩ := h2 (sk i0 i) (by unfold sk; split <;> omega)
    obtain ⟨o1, o2, o3⟩ := ho i hi
    exact ⟨k, er', pl', by rw [i2 i hi, k1], by rw [o2]; exact k2, o3 _ k3, by rw [o1]; exact k4⟩
/-- a new card -/
theorem L_card9 {pl : Int32} {er bs : Nat} : f_X9_init N (hS h) pl er (nI bs) (hNew h (.inr (9, [.int 0, .null, .int 0])) 3) = some (hNew h (.inr (9, [.int pl, .ref er, .int (nI bs)])) 3) := by
  have p1 : ∀ {fs : List Value} {k : Nat} {v : Value}, k < fs.length → pF (hNew h (.inr (9, fs)) 3) (hS h) 9 k v = some (hNew h (.inr (9, fs.set k v)) 3) := fun {fs k v} hk => by
    rw [pF_of' hM_new_eq hk, new_put]
  rw [f_X9_init, p1 (by decide), Option.bind_some, p1 (by show 1 < 3; decide), Option.bind_some, p1 (by show 2 < 3; decide), Option.bind_some]
  rfl
theorem card_new {pl : Int32} {er bs e : Nat} (b : MB M h) (hr : RowAt M h er n e) : IM M (hNew h (.inr (9, [.int pl, .ref er, .int (nI bs)])) 3) (hS h) (.inr (9, [.int pl, .ref er, .int (nI bs)])) ∧ RowAt M (hNew h (.inr (9, [.int pl, .ref er, .int (nI bs)])) 3) er n e := ⟨⟨hM_new_eq, by rw [hS_new]; omega, fun hm => by have := b _ hm; omega⟩, RowAt_fc hr (FC_new (n := 3)) (fun y hy => hy.elim)⟩
/-! the auction's own cells -/
theorem SaleAt_ext (q : SaleAt M h a pu wo ha d K t) (e : ∀ j, d' j = d j) : SaleAt M h a pu wo ha d' K t := by
  have : d' = d := funext e
  rw [this]; exact q
theorem SaleC_d (q : SaleC M h pu wo ha lo bi tv d K t) (hd : ∀ j, j = 0 ∨ j = 1 ∨ j = 2 ∨ j = 5 ∨ 11 ≤ j → d' j = d j) : SaleC M h pu wo ha lo bi tv d' K t := by
  obtain ⟨fp, fw, fl, gh, c1, c2, c3, c4, c5, c6, c7, c8⟩ := q
  have e0 := hd 0 (by omega)
  have e1 := hd 1 (by omega)
  have e2 := hd 2 (by omega)
  have e5 := hd 5 (by omega)
  refine ⟨fp, fw, fl, gh, by rw [e1]; exact c1, by rw [e1]; exact c2, by rw [e1]; exact c3, by rw [e2]; exact c4, fun p hp => ?_, fun l hl => ?_, CardsAt_eq c7 e0.symm e5.symm (fun c _ => ?_) (fun c _ => ?_) (fun c x _ hx => ?_), c8⟩
  · rw [e1] at hp
    obtain ⟨a1, a2, r, a3, a4⟩ := c5 p hp
    refine ⟨by rw [hd _ (by omega)]; exact a1, by rw [hd _ (by omega)]; exact a2, r, a3, CardsAt_eq a4 e0.symm (hd _ (by omega)).symm (fun c _ => ?_) (fun c _ => ?_) (fun c x _ hx => hx)⟩
    · rw [e0, hd (11 + 19 * p + 3 + 2 * c) (by omega)]
    · rw [hd (11 + 19 * p + 3 + 2 * c + 1) (by omega)]
  · rw [e2] at hl
    rw [hd _ (by omega)]; exact c6 l hl
  · unfold bidE
    rw [e0, hd (118 + 3 * c + 1) (by omega)]
  · rw [hd (118 + 3 * c + 2) (by omega)]
  · rw [hd (118 + 3 * c) (by omega)]; exact hx
theorem S_int {k v : Nat} (q : SaleAt M h a pu wo ha d K t) (hk : k < 12) (hs : ∀ (lo bi : Nat) (tv : Value), (saleL pu wo ha lo bi tv d).set k (.int (nI v)) = saleL pu wo ha lo bi tv d') (hd : ∀ j, j = 0 ∨ j = 1 ∨ j = 2 ∨ j = 5 ∨ 11 ≤ j → d' j = d j) : ∃ h', pF h a 12 k (.int (nI v)) = some h' ∧ SaleAt M h' a pu wo ha d' K t ∧ FC (ownW a pu wo ha) 0 0 h h' := by
  obtain ⟨lo, bi, tv, h1, h2, h3⟩ := q
  obtain ⟨⟨b1, b2, b3, b4⟩, ⟨m1, m2, m3, m4⟩, ⟨n1, n2, n3, n4, n5, n6⟩, -⟩ := id h2
  have f : FC (fun x => x = a) 0 0 h (hPut h a (saleO pu wo ha lo bi tv d')) := FC_put
  refine ⟨hPut h a (saleO pu wo ha lo bi tv d'), by rw [pF_of' h1 hk, hs], ⟨lo, bi, tv, hM_put_eq, OwnP_fc h2 f, SaleC_d (SaleC_fc h3 f (fun y hy => by rw [hy]; exact m1) ⟨b2, b3, b4⟩ ⟨fun e => n1 e.symm, fun e => n2 e.symm, fun e => n3 e.symm⟩) hd⟩, FC_mono f (by omega) (by omega) (fun x _ hx => Or.inl hx)⟩
theorem S_bi {r0 : Nat} (q : SaleAt M h a pu wo ha d K t) (hz : SzD d) (hd : ∀ j, j ≠ 5 → j < 118 → d' j = d j) (qc : CardsAt M h r0 (d 0) (d' 5) (bidE d') (fun b => d' (118 + 3 * b + 2)) (fun b x => x = nI (d' (118 + 3 * b)))) : ∃ h', pF h a 12 7 (.ref r0) = some h' ∧ SaleAt M h' a pu wo ha d' K t ∧ FC (ownW a pu wo ha) 0 0 h h' := by
  obtain ⟨lo, bi, tv, h1, h2, h3⟩ := q
  obtain ⟨z1, z2, z8⟩ := hz
  obtain ⟨⟨b1, b2, b3, b4⟩, ⟨m1, m2, m3, m4⟩, ⟨n1, n2, n3, n4, n5, n6⟩, -⟩ := id h2
  have f : FC (fun x => x = a) 0 0 h (hPut h a (saleO pu wo ha lo r0 tv d')) := FC_put
  have e0 := hd 0 (by omega) (by omega)
  have e1 := hd 1 (by omega) (by omega)
  have e2 := hd 2 (by omega) (by omega)
  have h3' := SaleC_fc h3 f (fun y hy => by rw [hy]; exact m1) ⟨b2, b3, b4⟩ ⟨fun e => n1 e.symm, fun e => n2 e.symm, fun e => n3 e.symm⟩
  have qc' := CardsAt_fc qc f (fun y hy => by rw [hy]; exact m1)
  obtain ⟨fp, fw, fl, gh, c1, c2, c3, c4, c5, c6, c7, c8⟩ := h3'
  refine ⟨hPut h a (saleO pu wo ha lo r0 tv d'), ?_, ⟨lo, r0, tv, hM_put_eq, OwnP_fc h2 f, ⟨fp, fw, fl, gh, by rw [e1]; exact c1, by rw [e1]; exact c2, by rw [e1]; exact c3, by rw [e2]; exact c4, fun p hp => ?_, fun l hl => ?_, by rw [e0]; exact qc', c8⟩⟩, FC_mono f (by omega) (by omega) (fun x _ hx => Or.inl hx)⟩
  · rw [pF_of' h1 (by show 7 < 12; decide)]
    show some (hPut h a (.inr (12, [_, _, _, _, _, _, _, _, _, _, _, _]))) = _
    congr 4
    show [.int (nI (d 0)), .ref pu, .ref wo, .ref ha, .ref lo, .int (nI (d 3)), .int (nI (d 4)), .ref r0, .int (nI (d 6)), .int (nI (d 7)), .int (nI (d 8)), tv] = saleL pu wo ha lo r0 tv d'
    unfold saleL
    rw [e0, hd 3 (by omega) (by omega), hd 4 (by omega) (by omega), hd 6 (by omega) (by omega), hd 7 (by omega) (by omega), hd 8 (by omega) (by omega)]
  · rw [e1] at hp
    have := z8 p hp
    obtain ⟨a1, a2, r, a3, a4⟩ := c5 p hp
    refine ⟨by rw [hd _ (by omega) (by omega)]; exact a1, by rw [hd _ (by omega) (by omega)]; exact a2, r, a3, CardsAt_eq a4 e0.symm (hd _ (by omega) (by omega)).symm (fun c hc => ?_) (fun c hc => ?_) (fun c x _ hx => hx)⟩
    · rw [e0, hd (11 + 19 * p + 3 + 2 * c) (by omega) (by omega)]
    · rw [hd (11 + 19 * p + 3 + 2 * c + 1) (by omega) (by omega)]
  · rw [e2] at hl
    rw [hd _ (by omega) (by omega)]; exact c6 l hl
theorem S_pu {v : Nat} (q : SaleAt M h a pu wo ha d K t) (hz : SzD d) (hp : p < d 1) (hd : ∀ j, j ≠ 11 + 19 * p → d' j = d j) (hv : d' (11 + 19 * p) = v) : ∃ h', stI h pu (nI p) (nI v) = some h' ∧ SaleAt M h' a pu wo ha d' K t ∧ FC (ownW a pu wo ha) 0 0 h h' := by
  obtain ⟨lo, bi, tv, h1, h2, h3⟩ := q
  obtain ⟨z1, z2, z8⟩ := hz
  obtain ⟨⟨b1, b2, b3, b4⟩, ⟨m1, m2, m3, m4⟩, ⟨n1, n2, n3, n4, n5, n6⟩, -⟩ := id h2
  have e0 := hd 0 (by omega)
  have e1 := hd 1 (by omega)
  have e2 := hd 2 (by omega)
  have e5 := hd 5 (by omega)
  obtain ⟨fp, fw, fl, gh, c1, c2, c3, c4, c5, c6, c7, c8⟩ := h3
  have f : FC (fun x => x = pu) 0 0 h (hPut h pu (.inl (0, d 1, .inl (upd fp p (nI v))))) := FC_put
  have hM9 : ∀ y, y = pu → M y := fun y hy => by rw [hy]; exact m2
  refine ⟨hPut h pu (.inl (0, d 1, .inl (upd fp p (nI v)))), stI_of' c1 hp (by omega), ⟨lo, bi, tv, ?_, OwnP_fc h2 f, ⟨upd fp p (nI v), fw, fl, gh, by rw [e1]; exact hM_put_eq, by rw [e1]; exact (hM_put_ne (fun e => n4 e.symm)).trans c2, by rw [e1]; exact (hM_put_ne (fun e => n5 e.symm)).trans c3, by rw [e2]; exact IM_fc c4 f hM9 (fun σ e => by cases e), fun p' hp' => ?_, fun l hl => ?_, ?_, TermAt_fc c8 f hM9⟩⟩, FC_mono f (by omega) (by omega) (fun x _ hx => Or.inr (Or.inl hx))⟩
  · rw [hM_put_ne n1, h1]
    unfold saleO saleL
    rw [e0, hd 3 (by omega), hd 4 (by omega), hd 6 (by omega), hd 7 (by omega), hd 8 (by omega)]
  · rw [e1] at hp'
    have := z8 p' hp'
    obtain ⟨a1, a2, r, a3, a4⟩ := c5 p' hp'
    refine ⟨?_, by rw [hd _ (by omega)]; exact a2, r, a3, CardsAt_eq (CardsAt_fc a4 f hM9) e0.symm (hd _ (by omega)).symm (fun c hc => ?_) (fun c hc => ?_) (fun c x _ hx => hx)⟩
    · by_cases hpp : p' = p
      · subst hpp
        rw [hv]; exact if_pos rfl
      · rw [hd _ (by omega)]
        exact (if_neg hpp).trans a1
    · rw [e0, hd (11 + 19 * p' + 3 + 2 * c) (by omega)]
    · rw [hd (11 + 19 * p' + 3 + 2 * c + 1) (by omega)]
  · rw [e2] at hl
    rw [hd _ (by omega)]; exact c6 l hl
  · refine CardsAt_eq (CardsAt_fc c7 f hM9) e0.symm e5.symm (fun c _ => ?_) (fun c _ => ?_) (fun c x _ hx => ?_)
    · unfold bidE
      rw [e0, hd (118 + 3 * c + 1) (by omega)]
    · rw [hd (118 + 3 * c + 2) (by omega)]
    · rw [hd (118 + 3 * c) (by omega)]; exact hx
theorem S_wo {v : Nat} (q : SaleAt M h a pu wo ha d K t) (hz : SzD d) (hp : p < d 1) (hd : ∀ j, j ≠ 11 + 19 * p + 2 → d' j = d j) (hv : d' (11 + 19 * p + 2) = v) : ∃ h', stI h wo (nI p) (nI v) = some h' ∧ SaleAt M h' a pu wo ha d' K t ∧ FC (ownW a pu wo ha) 0 0 h h' := by
  obtain ⟨lo, bi, tv, h1, h2, h3⟩ := q
  obtain ⟨z1, z2, z8⟩ := hz
  obtain ⟨⟨b1, b2, b3, b4⟩, ⟨m1, m2, m3, m4⟩, ⟨n1, n2, n3, n4, n5, n6⟩, -⟩ := id h2
  have e0 := hd 0 (by omega)
  have e1 := hd 1 (by omega)
  have e2 := hd 2 (by omega)
  have e5 := hd 5 (by omega)
  obtain ⟨fp, fw, fl, gh, c1, c2, c3, c4, c5, c6, c7, c8⟩ := h3
  have f : FC (fun x => x = wo) 0 0 h (hPut h wo (.inl (0, d 1, .inl (upd fw p (nI v))))) := FC_put
  have hM9 : ∀ y, y = wo → M y := fun y hy => by rw [hy]; exact m3
  refine ⟨hPut h wo (.inl (0, d 1, .inl (upd fw p (nI v)))), stI_of' c2 hp (by omega), ⟨lo, bi, tv, ?_, OwnP_fc h2 f, ⟨fp, upd fw p (nI v), fl, gh, by rw [e1]; exact (hM_put_ne n4).trans c1, by rw [e1]; exact hM_put_eq, by rw [e1]; exact (hM_put_ne (fun e => n6 e.symm)).trans c3, by rw [e2]; exact IM_fc c4 f hM9 (fun σ e => by cases e), fun p' hp' => ?_, fun l hl => ?_, ?_, TermAt_fc c8 f hM9⟩⟩, FC_mono f (by omega) (by omega) (fun x _ hx => Or.inr (Or.inr (Or.inl hx)))⟩
  · rw [hM_put_ne n2, h1]
    unfold saleO saleL
    rw [e0, hd 3 (by omega), hd 4 (by omega), hd 6 (by omega), hd 7 (by omega), hd 8 (by omega)]
  · rw [e1] at hp'
    have := z8 p' hp'
    obtain ⟨a1, a2, r, a3, a4⟩ := c5 p' hp'
    refine ⟨by rw [hd _ (by omega)]; exact a1, ?_, r, a3, CardsAt_eq (CardsAt_fc a4 f hM9) e0.symm (hd _ (by omega)).symm (fun c hc => ?_) (fun c hc => ?_) (fun c x _ hx => hx)⟩
    · by_cases hpp : p' = p
      · subst hpp
        rw [hv]; exact if_pos rfl
      · rw [hd _ (by omega)]
        exact (if_neg hpp).trans a2
    · rw [e0, hd (11 + 19 * p' + 3 + 2 * c) (by omega)]
    · rw [hd (11 + 19 * p' + 3 + 2 * c + 1) (by omega)]
  · rw [e2] at hl
    rw [hd _ (by omega)]; exact c6 l hl
  · refine CardsAt_eq (CardsAt_fc c7 f hM9) e0.symm e5.symm (fun c _ => ?_) (fun c _ => ?_) (fun c x _ hx => ?_)
    · unfold bidE
      rw [e0, hd (118 + 3 * c + 1) (by omega)]
    · rw [hd (118 + 3 * c + 2) (by omega)]
    · rw [hd (118 + 3 * c) (by omega)]; exact hx
theorem S_ha {r0 : Nat} (q : SaleAt M h a pu wo ha d K t) (hz : SzD d) (hp : p < d 1) (hd : ∀ j, j < 11 + 19 * p + 1 ∨ j = 11 + 19 * p + 2 ∨ 11 + 19 * p + 19 ≤ j → d' j = d j) (qc : CardsAt M h r0 (d 0) (d' (11 + 19 * p + 1)) (fun c => idxN (d 0) (d' (11 + 19 * p + 3 + 2 * c))) (fun c => d' (11 + 19 * p + 3 + 2 * c + 1)) (fun _ _ => True)) : ∃ h', stR h ha (nI p) r0 = some h' ∧ SaleAt M h' a pu wo ha d' K t ∧ FC (ownW a pu wo ha) 0 0 h h' := by
  obtain ⟨lo, bi, tv, h1, h2, h3⟩ := q
  obtain ⟨z1, z2, z8⟩ := hz
  obtain ⟨⟨b1, b2, b3, b4⟩, ⟨m1, m2, m3, m4⟩, ⟨n1, n2, n3, n4, n5, n6⟩, -⟩ := id h2
  have e0 := hd 0 (by omega)
  have e1 := hd 1 (by omega)
  have e2 := hd 2 (by omega)
  have e5 := hd 5 (by omega)
  obtain ⟨fp, fw, fl, gh, c1, c2, c3, c4, c5, c6, c7, c8⟩ := h3
  have f : FC (fun x => x = ha) 0 0 h (hPut h ha (rfA (d 1) 6 (va_up gh p (some r0)))) := FC_put
  have hM9 : ∀ y, y = ha → M y := fun y hy => by rw [hy]; exact m4
  obtain ⟨g0, q0, -⟩ := id qc
  refine ⟨hPut h ha (rfA (d 1) 6 (va_up gh p (some r0))), stR_of' c3 q0.1 hp (by omega), ⟨lo, bi, tv, ?_, OwnP_fc h2 f, ⟨fp, fw, fl, va_up gh p (some r0), by rw [e1]; exact (hM_put_ne n5).trans c1, by rw [e1]; exact (hM_put_ne n6).trans c2, by rw [e1]; exact hM_put_eq, by rw [e2]; exact IM_fc c4 f hM9 (fun σ e => by cases e), fun p' hp' => ?_, fun l hl => ?_, ?_, TermAt_fc c8 f hM9⟩⟩, FC_mono f (by omega) (by omega) (fun x _ hx => Or.inr (Or.inr (Or.inr hx)))⟩
  · rw [hM_put_ne n3, h1]
    unfold saleO saleL
    rw [e0, hd 3 (by omega), hd 4 (by omega), hd 6 (by omega), hd 7 (by omega), hd 8 (by omega)]
  · rw [e1] at hp'
    have := z8 p' hp'
    obtain ⟨a1, a2, r, a3, a4⟩ := c5 p' hp'
    by_cases hpp : p' = p
    · subst hpp
      refine ⟨by rw [hd _ (by omega)]; exact a1, by rw [hd _ (by omega)]; exact a2, r0, vaq_eq, ?_⟩
      rw [e0]
      exact CardsAt_fc qc f hM9
    · refine ⟨by rw [hd _ (by omega)]; exact a1, by rw [hd _ (by omega)]; exact a2, r, by rw [vaq_ne hpp]; exact a3, CardsAt_eq (CardsAt_fc a4 f hM9) e0.symm (hd _ (by omega)).symm (fun c hc => ?_) (fun c hc => ?_) (fun c x _ hx => hx)⟩
      · rw [e0, hd (11 + 19 * p' + 3 + 2 * c) (by omega)]
      · rw [hd (11 + 19 * p' + 3 + 2 * c + 1) (by omega)]
  · rw [e2] at hl
    rw [hd _ (by omega)]; exact c6 l hl
  · refine CardsAt_eq (CardsAt_fc c7 f hM9) e0.symm e5.symm (fun c _ => ?_) (fun c _ => ?_) (fun c x _ hx => ?_)
    · unfold bidE
      rw [e0, hd (118 + 3 * c + 1) (by omega)]
    · rw [hd (118 + 3 * c + 2) (by omega)]
    · rw [hd (118 + 3 * c) (by omega)]; exact hx
end M67

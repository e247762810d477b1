/-! ===== a copy of an auction ===== -/
def cpM (M : Nat → Prop) (A : Nat) : Nat → Prop := fun x => M x ∨ x = A ∨ x = A + 6 ∨ x = A + 7 ∨ x = A + 8
section M90
variable {M W : Nat → Prop} {h h' : zH} {N n c m a pu wo ha K : Nat} {d t : Nat → Nat}
theorem stepF {A i : Nat} {fs : List Value} {v : Value} (hm : hM h A = some (.inr (12, fs))) (hi : i < fs.length) : ∃ k', pF h A 12 i v = some k' ∧ hM k' A = some (.inr (12, fs.set i v)) ∧ hS k' = hS h ∧ FC (fun x => x = A) 0 0 h k' := ⟨_, pF_of' hm hi, hM_put_eq, rfl, FC_put⟩
theorem cpy_l {A b ha' : Nat} {gh : Nat → Option Nat} {x1 x2 : List Value} (hA : x1[3]? = some (.ref ha)) (hB : x2[3]? = some (.ref ha')) (hne : ha' ≠ ha ∧ ha' ≠ a ∧ ha' ≠ A) (hn : n ≤ 5) : ∀ (r p fu : Nat) (g : Nat → Option Nat) (k : zH), p + r = n → r < fu → hM k a = some (.inr (12, x1)) → hM k A = some (.inr (12, x2)) → hM k ha = some (rfA n 6 gh) → hM k ha' = some (rfA n 6 g) → (∀ j, j < n → ∃ r0 e0 g0, gh j = some r0 ∧ hM k r0 = some (rfA e0 5 g0) ∧ r0 ≠ ha') → (∀ j, j < p → g j = gh j) → ∃ g' k', (∀ k1, f_X12_copy_l58 N a A k1 fu (nI p) k = k1 k') ∧ hM k' ha' = some (rfA n 6 g') ∧ (∀ j, j < n → g' j = gh j) ∧ hS k' = hS k ∧ FC (fun x => x = ha') 0 0 k k' := by
  intro r
  induction r with
  | zero =>
    intro p fu g k hp hf ma mA mh mh' mr hg
    obtain ⟨f, rfl⟩ : ∃ f, fu = f + 1 := ⟨fu - 1, by omega⟩
    have e1 : gA k a 12 3 = some ha := gA_of' ma hA
    have l1 : aLen k ha = some (nI n) := aLen_of' mh (by decide)
    refine ⟨g, k, fun k1 => ?_, mh', fun j hj => hg j (by omega), rfl, FC_rf⟩
    rw [f_X12_copy_l58]
    simp (disch := omega) only [e1, l1, nleT, Option.bind_some, ↓reduceIte]
  | succ r ih =>
    intro p fu g k hp hf ma mA mh mh' mr hg
    obtain ⟨f, rfl⟩ : ∃ f, fu = f + 1 := ⟨fu - 1, by omega⟩
    have e1 : gA k a 12 3 = some ha := gA_of' ma hA
    have e2 : gA k A 12 3 = some ha' := gA_of' mA hB
    have l1 : aLen k ha = some (nI n) := aLen_of' mh (by decide)
    obtain ⟨r0, e0, g0, r1, r2, r3⟩ := mr p (by omega)
    have l2 : ldQ k ha (nI p) = some r0 := ldQ_of' mh (by omega) (by omega) (by omega) r1
    have s1 := stR_of' mh' r2 (show p < n by omega) (by omega)
    have f1 : FC (fun x => x = ha') 0 0 k (hPut k ha' (rfA n 6 (va_up g p (some r0)))) := FC_put
    obtain ⟨g', k', i1, i2, i3, i4, i5⟩ := ih (p + 1) f (va_up g p (some r0)) (hPut k ha' (rfA n 6 (va_up g p (some r0)))) (by omega) (by omega) ((hM_put_ne (Ne.symm hne.2.1)).trans ma) ((hM_put_ne (Ne.symm hne.2.2)).trans mA) ((hM_put_ne (Ne.symm hne.1)).trans mh) hM_put_eq (fun j hj => by
      obtain ⟨r0', e0', g0', q1, q2, q3⟩ := mr j hj
      exact ⟨r0', e0', g0', q1, (hM_put_ne q3).trans q2, q3⟩) (fun j hj => by
      by_cases hjp : j = p
      · rw [hjp, vaq_eq, r1]
      · rw [vaq_ne hjp]; exact hg j (by omega))
    refine ⟨g', k', fun k1 => ?_, i2, i3, i4, FC_mono (FC_tr f1 i5) (by omega) (by omega) (fun _ _ h => h)⟩
    rw [f_X12_copy_l58]
    simp (disch := omega) only [e1, e2, l1, l2, s1, nleF, nlit, nadd, i1, Option.bind_some, ↓reduceIte]
theorem S_copy (hNN : 1000 < N) (q : SaleAt M h a pu wo ha d K t) (b : MB M h) (hz : SzD d) : ∃ h', f_X12_copy N a h = some (hS h, h') ∧ SaleAt (cpM M (hS h)) h' (hS h) (hS h + 6) (hS h + 7) (hS h + 8) d K t ∧ FC nW 9 27 h h' ∧ hS h' = hS h + 9 := by
  have z1 := hz.1
  obtain ⟨lo, bi, tv, q1, q2, q3⟩ := id q
  obtain ⟨fp, fw, fl, gh, c1, c2, c3, c4, c5, c6, c7, c8⟩ := id q3
  obtain ⟨⟨b1, b2, b3, b4⟩, -⟩ := id q2
  obtain ⟨h1, h2, w1, w2, -, f2, s2, m2, m2b⟩ := S_new (N := N) b
  have w1' : nwOb 12 [.int (nI 0), .null, .null, .null, .null, .int (nI 0), .int (nI 0), .null, .int (nI 0), .int (nI 0), .int (nI 0), .null] h = some (hS h, h1) := w1
  -- from h only what is new is touched
  have lf : ∀ {k k' : zH} {x c m c' m' : Nat}, FC nW c m h k → FC (fun y => y = x) c' m' k k' → hS h ≤ x → FC nW (c + c') (m + m') h k' := fun {k k' x c m c' m'} f g hx => FC_mono (FC_tr (FC_mono (W' := fun y => y = x) f (Nat.le_refl _) (Nat.le_refl _) (fun _ _ h => h.elim)) g) (Nat.le_refl _) (Nat.le_refl _) (fun y hy hw => by omega)
  have rd : ∀ {k : zH} {c m : Nat}, FC nW c m h k → gI k a 12 0 = some (nI (d 0)) ∧ gA k a 12 1 = some pu ∧ gA k a 12 2 = some wo ∧ gA k a 12 3 = some ha ∧ gA k a 12 4 = some lo ∧ gI k a 12 5 = some (nI (d 3)) ∧ gI k a 12 6 = some (nI (d 4)) ∧ gA k a 12 7 = some bi ∧ gI k a 12 8 = some (nI (d 6)) ∧ gI k a 12 9 = some (nI (d 7)) ∧ gI k a 12 10 = some (nI (d 8)) ∧ hM k a = some (saleO pu wo ha lo bi tv d) := fun {k c m} f => by
    have hm := cell_fc q1 b1 f (fun h => h) (fun σ e => by cases e)
    exact ⟨gI_of' hm rfl, gA_of' hm rfl, gA_of' hm rfl, gA_of' hm rfl, gA_of' hm rfl, gI_of' hm rfl, gI_of' hm rfl, gA_of' hm rfl, gI_of' hm rfl, gI_of' hm rfl, gI_of' hm rfl, hm⟩
  -- n
  obtain ⟨k0, p0, t0, u0, g0⟩ := stepF (i := 0) (v := .int (nI (d 0))) m2 (by show 0 < 12; decide)
  have F0 := lf f2 g0 (Nat.le_refl _)
  -- purses
  have cl1 : cnI k0 pu = some (hS k0, hNew k0 (.inl (0, d 1, .inl fp)) (d 1)) := by
    unfold cnI
    rw [cell_fc c1 b2 F0 (fun h => h) (fun σ e => by cases e)]
    exact if_pos rfl
  have g1 : FC nW 1 (d 1) k0 (hNew k0 (.inl (0, d 1, .inl fp)) (d 1)) := FC_new
  have t1 : hM (hNew k0 (.inl (0, d 1, .inl fp)) (d 1)) (hS h) = some (.inr (12, (saleL (hS h + 1) (hS h + 2) (hS h + 3) (hS h + 4) (hS h + 5) .null d0N).set 0 (.int (nI (d 0))))) := (hM_new_ne (by omega)).trans t0
  have u1 : hM (hNew k0 (.inl (0, d 1, .inl fp)) (d 1)) (hS k0) = some (.inl (0, d 1, .inl fp)) := hM_new_eq
  have s1 : hS (hNew k0 (.inl (0, d 1, .inl fp)) (d 1)) = hS k0 + 1 := hS_new _ _ _
  have F1 := FC_tr F0 g1
  generalize hNew k0 (.inl (0, d 1, .inl fp)) (d 1) = k1 at cl1 g1 t1 u1 s1 F1
  obtain ⟨k2, p2, t2, u2, g2⟩ := stepF (i := 1) (v := .ref (hS k0)) t1 (by show 1 < 12; decide)
  have F2 := lf F1 g2 (Nat.le_refl _)
  -- won
  have cl3 : cnI k2 wo = some (hS k2, hNew k2 (.inl (0, d 1, .inl fw)) (d 1)) := by
    unfold cnI
    rw [cell_fc c2 b3 F2 (fun h => h) (fun σ e => by cases e)]
    exact if_pos rfl
  have g3 : FC nW 1 (d 1) k2 (hNew k2 (.inl (0, d 1, .inl fw)) (d 1)) := FC_new
  have t3 : hM (hNew k2 (.inl (0, d 1, .inl fw)) (d 1)) (hS h) = _ := (hM_new_ne (by omega)).trans t2
  have u3 : hM (hNew k2 (.inl (0, d 1, .inl fw)) (d 1)) (hS k2) = some (.inl (0, d 1, .inl fw)) := hM_new_eq
  have s3 : hS (hNew k2 (.inl (0, d 1, .inl fw)) (d 1)) = hS k2 + 1 := hS_new _ _ _
  have F3 := FC_tr F2 g3
  generalize hNew k2 (.inl (0, d 1, .inl fw)) (d 1) = k3 at cl3 g3 t3 u3 s3 F3
  obtain ⟨k4, p4, t4, u4, g4⟩ := stepF (i := 2) (v := .ref (hS k2)) t3 (by show 2 < 12; decide)
  have F4 := lf F3 g4 (Nat.le_refl _)
  -- hands
  have l5 : aLen k4 ha = some (nI (d 1)) := aLen_of' (cell_fc c3 b4 F4 (fun h => h) (fun σ e => by cases e)) (by decide)
  have w5 : nwR k4 (nI (d 1)) = _ := nwR_of (by omega)
  have g5 : FC nW 1 (d 1) k4 (hNew k4 (rfA (d 1) 6 (fun _ => none)) (d 1)) := FC_new
  have t5 : hM (hNew k4 (rfA (d 1) 6 (fun _ => none)) (d 1)) (hS h) = _ := (hM_new_ne (by omega)).trans t4
  have u5 : hM (hNew k4 (rfA (d 1) 6 (fun _ => none)) (d 1)) (hS k4) = some (rfA (d 1) 6 (fun _ => none)) := hM_new_eq
  have s5 : hS (hNew k4 (rfA (d 1) 6 (fun _ => none)) (d 1)) = hS k4 + 1 := hS_new _ _ _
  have F5 := FC_tr F4 g5
  generalize hNew k4 (rfA (d 1) 6 (fun _ => none)) (d 1) = k5 at w5 g5 t5 u5 s5 F5
  obtain ⟨k6, p6, t6, u6, g6⟩ := stepF (i := 3) (v := .ref (hS k4)) t5 (by show 3 < 12; decide)
  have F6 := lf F5 g6 (Nat.le_refl _)
  have u6h : hM k6 (hS k4) = some (rfA (d 1) 6 (fun _ => none)) := cell_fc u5 (by omega) g6 (by omega) (fun σ e => by cases e)
  obtain ⟨g', k7, i1, i2, i3, i4, i5⟩ := cpy_l (N := N) (a := a) (A := hS h) (b := 0) (ha := ha) (ha' := hS k4) (n := d 1) (gh := gh) (x1 := saleL pu wo ha lo bi tv d) (x2 := ((((saleL (hS h + 1) (hS h + 2) (hS h + 3) (hS h + 4) (hS h + 5) .null d0N).set 0 (.int (nI (d 0)))).set 1 (.ref (hS k0))).set 2 (.ref (hS k2))).set 3 (.ref (hS k4))) rfl rfl ⟨by omega, by omega, by omega⟩ z1 (d 1) 0 N (fun _ => none) k6 (by omega) (by omega) (rd F6).2.2.2.2.2.2.2.2.2.2.2 t6 (cell_fc c3 b4 F6 (fun h => h) (fun σ e => by cases e)) u6h (fun j hj => by
    obtain ⟨-, -, r, r1, ⟨gr, r2, -⟩⟩ := c5 j hj
    exact ⟨r, _, gr, r1, cell_fc r2.1 r2.2.1 F6 (fun h => h) (fun σ e => by cases e), by have := r2.2.1; omega⟩) (fun j hj => absurd hj (Nat.not_lt_zero j))
  have F7 := lf F6 i5 (by omega)
  have t7 := cell_fc t6 (by omega) i5 (by omega) (fun σ e => by cases e)
  -- the rest
  obtain ⟨k8, p8, t8, u8, g8⟩ := stepF (i := 4) (v := .ref lo) t7 (by show 4 < 12; decide)
  have F8 := lf F7 g8 (Nat.le_refl _)
  obtain ⟨k9, p9, t9, u9, g9⟩ := stepF (i := 5) (v := .int (nI (d 3))) t8 (by show 5 < 12; decide)
  have F9 := lf F8 g9 (Nat.le_refl _)
  obtain ⟨ka, pa, ta, ua, ga⟩ := stepF (i := 6) (v := .int (nI (d 4))) t9 (by show 6 < 12; decide)
  have Fa := lf F9 ga (Nat.le_refl _)
  obtain ⟨kb, pb, tb, ub, gb⟩ := stepF (i := 7) (v := .ref bi) ta (by show 7 < 12; decide)
  have Fb := lf Fa gb (Nat.le_refl _)
  obtain ⟨kc, pc, tc, uc, gc⟩ := stepF (i := 8) (v := .int (nI (d 6))) tb (by show 8 < 12; decide)
  have Fc := lf Fb gc (Nat.le_refl _)
  obtain ⟨kd, pd, td, ud, gd⟩ := stepF (i := 9) (v := .int (nI (d 7))) tc (by show 9 < 12; decide)
  have Fd := lf Fc gd (Nat.le_refl _)
  obtain ⟨ke, pe, te, ue, ge⟩ := stepF (i := 10) (v := .int (nI (d 8))) td (by show 10 < 12; decide)
  have Fe := lf Fd ge (Nat.le_refl _)
  obtain ⟨kf, pf, tf, uf, gf⟩ := stepF (i := 11) (v := tv) te (by show 11 < 12; decide)
  have Ff := lf Fe gf (Nat.le_refl _)
  have sS : hS k0 = hS h + 6 ∧ hS k2 = hS h + 7 ∧ hS k4 = hS h + 8 ∧ hS kf = hS h + 9 := by omega
  have FA : FC (fun x => x = hS h) 0 0 k7 kf := FC_mono (FC_tr g8 (FC_tr g9 (FC_tr ga (FC_tr gb (FC_tr gc (FC_tr gd (FC_tr ge gf))))))) (by omega) (by omega) (fun _ _ h => h)
  have tf' : hM kf (hS h) = some (saleO (hS h + 6) (hS h + 7) (hS h + 8) lo bi tv d) := by
    rw [tf, sS.1, sS.2.1, sS.2.2.1]
    rfl
  have e6 : hM kf (hS h + 6) = some (.inl (0, d 1, .inl fp)) := by
    rw [← sS.1]
    have a1 := cell_fc (cell_fc (cell_fc (cell_fc u1 (by omega) g2 (by omega) (fun σ e => by cases e)) (by omega) g3 (fun h => h) (fun σ e => by cases e)) (by omega) g4 (by omega) (fun σ e => by cases e)) (by omega) g5 (fun h => h) (fun σ e => by cases e)
    exact cell_fc (cell_fc (cell_fc a1 (by omega) g6 (by omega) (fun σ e => by cases e)) (by omega) i5 (by omega) (fun σ e => by cases e)) (by omega) FA (by omega) (fun σ e => by cases e)
  have e7 : hM kf (hS h + 7) = some (.inl (0, d 1, .inl fw)) := by
    rw [← sS.2.1]
    have a1 := cell_fc (cell_fc (cell_fc u3 (by omega) g4 (by omega) (fun σ e => by cases e)) (by omega) g5 (fun h => h) (fun σ e => by cases e)) (by omega) g6 (by omega) (fun σ e => by cases e)
    exact cell_fc (cell_fc a1 (by omega) i5 (by omega) (fun σ e => by cases e)) (by omega) FA (by omega) (fun σ e => by cases e)
  have e8 : hM kf (hS h + 8) = some (rfA (d 1) 6 g') := by
    rw [← sS.2.2.1]
    exact cell_fc i2 (by omega) FA (by omega) (fun σ e => by cases e)
  have hup : ∀ y, y < hS h → cpM M (hS h) y → M y := fun y hy hm => by rcases hm with hm | hm | hm | hm | hm; exact hm; all_goals omega
  refine ⟨kf, ?_, ⟨lo, bi, tv, tf', ⟨⟨by omega, by omega, by omega, by omega⟩, ⟨Or.inr (Or.inl rfl), Or.inr (Or.inr (Or.inl rfl)), Or.inr (Or.inr (Or.inr (Or.inl rfl))), Or.inr (Or.inr (Or.inr (Or.inr rfl)))⟩, ⟨by omega, by omega, by omega, by omega, by omega, by omega⟩, by omega, by omega⟩, fp, fw, fl, g', e6, e7, e8, IM_fc (IM_M c4 hup) Ff nW_any (fun σ e => by cases e), fun p hp => ?_, c6, CardsAt_fc (CardsAt_M c7 hup) Ff nW_any, TermAt_fc (TermAt_M c8 hup) Ff nW_any⟩, FC_mono Ff (by omega) (by omega) (fun _ _ h => h), sS.2.2.2⟩
  · have r0 := rd F0
    have hcell := (rd Fe).2.2.2.2.2.2.2.2.2.2.2
    have htv : (tv = .null ∧ gO ke a 12 11 = some none) ∨ ∃ r, tv = .ref r ∧ gO ke a 12 11 = some (some r) := by
      rcases c8 with ⟨h9, -⟩ | ⟨r, C, X, h9, -⟩
      · rw [h9] at hcell
        exact Or.inl ⟨h9, by simp only [gO, gF, hcell]; rfl⟩
      · rw [h9] at hcell
        exact Or.inr ⟨r, h9, by simp only [gO, gF, hcell]; rfl⟩
    rcases htv with ⟨rfl, hO⟩ | ⟨r, rfl, hO⟩
    · simp only [f_X12_copy, nlit, w1', w2, (rd f2).1, p0, (rd F0).2.1, cl1, p2, (rd F2).2.2.1, cl3, p4, (rd F4).2.2.2.1, l5, w5, p6, i1, (rd F7).2.2.2.2.1, p8, (rd F8).2.2.2.2.2.1, p9, (rd F9).2.2.2.2.2.2.1, pa, (rd Fa).2.2.2.2.2.2.2.1, pb, (rd Fb).2.2.2.2.2.2.2.2.1, pc, (rd Fc).2.2.2.2.2.2.2.2.2.1, pd, (rd Fd).2.2.2.2.2.2.2.2.2.2.1, pe, hO, znl, pf, Option.bind_some]
    · simp only [f_X12_copy, nlit, w1', w2, (rd f2).1, p0, (rd F0).2.1, cl1, p2, (rd F2).2.2.1, cl3, p4, (rd F4).2.2.2.1, l5, w5, p6, i1, (rd F7).2.2.2.2.1, p8, (rd F8).2.2.2.2.2.1, p9, (rd F9).2.2.2.2.2.2.1, pa, (rd Fa).2.2.2.2.2.2.2.1, pb, (rd Fb).2.2.2.2.2.2.2.2.1, pc, (rd Fc).2.2.2.2.2.2.2.2.2.1, pd, (rd Fd).2.2.2.2.2.2.2.2.2.2.1, pe, hO, znl, pf, Option.bind_some]
  · obtain ⟨a1, a2, r, a3, a4⟩ := c5 p hp
    exact ⟨a1, a2, r, by rw [i3 p hp, a3], CardsAt_fc (CardsAt_M a4 hup) Ff nW_any⟩
end M90

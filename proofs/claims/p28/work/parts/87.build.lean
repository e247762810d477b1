/-! ===== an auction is built ===== -/
def SaleP (M : Nat → Prop) (h : zH) (a pu wo ha lo bi P : Nat) (tv : Value) (e : Nat → Nat) (fp : Nat → Int32) : Prop := hM h a = some (saleO pu wo ha lo bi tv e) ∧ OwnP M h a pu wo ha ∧ (∃ (fw : Nat → Int32) (gh : Nat → Option Nat), hM h pu = some (.inl (0, P, .inl fp)) ∧ hM h wo = some (.inl (0, P, .inl fw)) ∧ hM h ha = some (rfA P 6 gh) ∧ (∀ p, p < e 1 → fp p = nI (e (11 + 19 * p)) ∧ ∃ r, gh p = some r ∧ CardsAt M h r (e 0) (e (11 + 19 * p + 1)) (fun c => idxN (e 0) (e (11 + 19 * p + 3 + 2 * c))) (fun c => e (11 + 19 * p + 3 + 2 * c + 1)) (fun _ _ => True)) ∧ ∀ p, p < P → fw p = nI 0) ∧ ∃ gb, IM M h bi (rfA 0 5 gb)
def EnvW (M : Nat → Prop) (b0 bu : Nat) (κ : Nat → Nat) (h : zH) (L : List Nat) (d : Nat → Nat) (K : Nat) (t : Nat → Nat) (yy : Nat × (Nat → Nat → Nat) × (Nat → Nat) × (Nat → Nat → Nat)) (ea : Int32) : Prop := WrAt M b0 bu h d K t yy ea L ∧ K20 M κ h ∧ MB M h ∧ b0 + 395 ≤ bu ∧ M (bu + 1)
def anW : Nat → Prop := fun _ => True
section M87
variable {M W : Nat → Prop} {h h' : zH} {N n c m a pu wo ha lo bi P b0 bu K k v : Nat} {tv : Value} {d e t : Nat → Nat} {yy : Nat × (Nat → Nat → Nat) × (Nat → Nat) × (Nat → Nat → Nat)} {ea : Int32} {L S : List Nat} {κ : Nat → Nat} {fp : Nat → Int32}
theorem FC_an (f : FC W c m h h') : FC anW c m h h' := FC_mono f (Nat.le_refl _) (Nat.le_refl _) (fun _ _ _ => trivial)
theorem SaleP_fc (q : SaleP M h a pu wo ha lo bi P tv e fp) (f : FC W c m h h') (hw : ∀ y, W y → M y) (ho : ∀ x, ownW a pu wo ha x → ¬ W x) : SaleP M h' a pu wo ha lo bi P tv e fp := by
  obtain ⟨q1, q2, ⟨fw, gh, q3, q4, q5, q6, q7⟩, gb, q8⟩ := q
  obtain ⟨⟨b1, b2, b3, b4⟩, -⟩ := id q2
  refine ⟨cell_fc q1 b1 f (ho _ (Or.inl rfl)) (fun σ e => by cases e), OwnP_fc q2 f, ⟨fw, gh, cell_fc q3 b2 f (ho _ (Or.inr (Or.inl rfl))) (fun σ e => by cases e), cell_fc q4 b3 f (ho _ (Or.inr (Or.inr (Or.inl rfl)))) (fun σ e => by cases e), cell_fc q5 b4 f (ho _ (Or.inr (Or.inr (Or.inr rfl)))) (fun σ e => by cases e), fun p hp => ?_, q7⟩, gb, IM_fc q8 f hw (fun σ e => by cases e)⟩
  obtain ⟨p1, r, p2, p3⟩ := q6 p hp
  exact ⟨p1, r, p2, CardsAt_fc p3 f hw⟩
theorem P_own (q : SaleP M h a pu wo ha lo bi P tv e fp) : ∀ y, ownW a pu wo ha y → M y := by
  obtain ⟨-, ⟨-, ⟨m1, m2, m3, m4⟩, -⟩, -⟩ := q
  rintro y (rfl | rfl | rfl | rfl) <;> assumption
theorem P_rd (q : SaleP M h a pu wo ha lo bi P tv e fp) : gI h a 12 0 = some (nI (e 0)) ∧ gA h a 12 1 = some pu ∧ gA h a 12 3 = some ha ∧ gA h a 12 4 = some lo := ⟨gI_of' q.1 rfl, gA_of' q.1 rfl, gA_of' q.1 rfl, gA_of' q.1 rfl⟩
theorem P_hand (q : SaleP M h a pu wo ha lo bi P tv e fp) (hk : k < e 1) (hP : P < 1000) (hkP : k < P) : ∃ r, ldQ h ha (nI k) = some r ∧ CardsAt M h r (e 0) (e (11 + 19 * k + 1)) (fun c => idxN (e 0) (e (11 + 19 * k + 3 + 2 * c))) (fun c => e (11 + 19 * k + 3 + 2 * c + 1)) (fun _ _ => True) := by
  obtain ⟨q1, q2, ⟨fw, gh, q3, q4, q5, q6, q7⟩, q8⟩ := q
  obtain ⟨p1, r, p2, p3⟩ := q6 k hk
  exact ⟨r, ldQ_of' q5 (by omega) hkP (by omega) p2, p3⟩
theorem P_pu (q : SaleP M h a pu wo ha lo bi P tv e fp) (hk : k < P) (hke : e 1 ≤ k) (hP : P < 1000) : ∃ h', stI h pu (nI k) (nI v) = some h' ∧ SaleP M h' a pu wo ha lo bi P tv e (upd fp k (nI v)) ∧ FC (ownW a pu wo ha) 0 0 h h' ∧ ldI h' pu (nI k) = some (nI v) := by
  have hm := P_own q
  obtain ⟨q1, q2, ⟨fw, gh, q3, q4, q5, q6, q7⟩, gb, q8⟩ := q
  obtain ⟨⟨b1, b2, b3, b4⟩, ⟨m1, m2, m3, m4⟩, ⟨n1, n2, n3, n4, n5, n6⟩, -⟩ := id q2
  have f : FC (fun x => x = pu) 0 0 h (hPut h pu (.inl (0, P, .inl (upd fp k (nI v))))) := FC_put
  have hM9 : ∀ y, y = pu → M y := fun y hy => by rw [hy]; exact m2
  refine ⟨_, stI_of' q3 hk (by omega), ⟨(hM_put_ne n1).trans q1, OwnP_fc q2 f, ⟨fw, gh, hM_put_eq, (hM_put_ne (Ne.symm n4)).trans q4, (hM_put_ne (Ne.symm n5)).trans q5, fun p hp => ?_, q7⟩, gb, IM_fc q8 f hM9 (fun σ e => by cases e)⟩, FC_mono f (Nat.le_refl _) (Nat.le_refl _) (fun x _ hx => Or.inr (Or.inl hx)), by rw [ldI_of' hM_put_eq hk (by omega)]; exact congrArg some (upS_eq _ _ _)⟩
  obtain ⟨p1, r, p2, p3⟩ := q6 p hp
  exact ⟨(upS_ne (by omega)).trans p1, r, p2, CardsAt_fc p3 f hM9⟩
theorem P_ha {r0 : Nat} {e' : Nat → Nat} (q : SaleP M h a pu wo ha lo bi P tv e fp) (hk : k < P) (hP : P < 1000) (he : ∀ j, j = 0 ∨ j = 3 ∨ j = 4 ∨ j = 6 ∨ j = 7 ∨ j = 8 → e' j = e j) (ho : ∀ p, p < e' 1 → p ≠ k → p < e 1 ∧ e' (11 + 19 * p) = e (11 + 19 * p) ∧ e' (11 + 19 * p + 1) = e (11 + 19 * p + 1) ∧ ∀ c, c < e (11 + 19 * p + 1) → e' (11 + 19 * p + 3 + 2 * c) = e (11 + 19 * p + 3 + 2 * c) ∧ e' (11 + 19 * p + 3 + 2 * c + 1) = e (11 + 19 * p + 3 + 2 * c + 1)) (hf : fp k = nI (e' (11 + 19 * k))) (qc : CardsAt M h r0 (e 0) (e' (11 + 19 * k + 1)) (fun c => idxN (e 0) (e' (11 + 19 * k + 3 + 2 * c))) (fun c => e' (11 + 19 * k + 3 + 2 * c + 1)) (fun _ _ => True)) : ∃ h', stR h ha (nI k) r0 = some h' ∧ SaleP M h' a pu wo ha lo bi P tv e' fp ∧ FC (ownW a pu wo ha) 0 0 h h' := by
  obtain ⟨q1, q2, ⟨fw, gh, q3, q4, q5, q6, q7⟩, gb, q8⟩ := q
  obtain ⟨⟨b1, b2, b3, b4⟩, ⟨m1, m2, m3, m4⟩, ⟨n1, n2, n3, n4, n5, n6⟩, -⟩ := id q2
  have f : FC (fun x => x = ha) 0 0 h (hPut h ha (rfA P 6 (va_up gh k (some r0)))) := FC_put
  have hM9 : ∀ y, y = ha → M y := fun y hy => by rw [hy]; exact m4
  have e0 := he 0 (by omega)
  obtain ⟨g0, k0, -⟩ := id qc
  refine ⟨_, stR_of' q5 k0.1 hk (by omega), ⟨?_, OwnP_fc q2 f, ⟨fw, va_up gh k (some r0), (hM_put_ne n5).trans q3, (hM_put_ne n6).trans q4, hM_put_eq, fun p hp => ?_, q7⟩, gb, IM_fc q8 f hM9 (fun σ e => by cases e)⟩, FC_mono f (Nat.le_refl _) (Nat.le_refl _) (fun x _ hx => Or.inr (Or.inr (Or.inr hx)))⟩
  · rw [hM_put_ne n3, q1]
    unfold saleO saleL
    rw [e0, he 3 (by omega), he 4 (by omega), he 6 (by omega), he 7 (by omega), he 8 (by omega)]
  · by_cases hpk : p = k
    · subst hpk
      refine ⟨hf, r0, vaq_eq, ?_⟩
      rw [e0]
      exact CardsAt_fc qc f hM9
    · obtain ⟨o1, o2, o3, o4⟩ := ho p hp hpk
      obtain ⟨p1, r, p2, p3⟩ := q6 p o1
      refine ⟨by rw [o2]; exact p1, r, by rw [vaq_ne hpk]; exact p2, CardsAt_eq (CardsAt_fc p3 f hM9) e0.symm o3.symm (fun c hc => ?_) (fun c hc => ?_) (fun c x _ hx => hx)⟩
      · rw [e0, (o4 c hc).1]
      · rw [(o4 c hc).2]
/-- the writing and the rest -/
theorem WrAt_fc (q : WrAt M b0 bu h d K t yy ea L) (f : FC W c m h h') (ho : ∀ y, W y → y < b0 ∨ b0 + 395 ≤ y) (hw : WOK h W) (hbu : ¬ W bu) (hr : RnAt h' (bu + 1)) : WrAt M b0 bu h' d K t yy ea L := by
  obtain ⟨⟨B, q0, q00⟩, ⟨g, f1, f2, f3⟩, qL, ⟨q3, q4⟩, q5, q6, q7⟩ := q
  exact ⟨⟨B, WC_fc q0 f ho hw, q00⟩, ⟨g, cell_fc f1 (by omega) f hbu (fun σ e => by cases e), f2, f3⟩, qL, ⟨q3, Nat.lt_of_lt_of_le q4 f.1.1⟩, hr, q6, q7⟩
theorem Wr_rn (q : WrAt M b0 bu h d K t yy ea L) : RnAt h (bu + 1) ∧ bu + 1 < hS h := ⟨q.2.2.2.2.1, q.2.2.2.1.2⟩
theorem Env_rn (E : EnvW M b0 bu κ h L d K t yy ea) (f : FC (fun x => x = bu + 1) c m h h') (hr : RnAt h' (bu + 1)) : EnvW M b0 bu κ h' L d K t yy ea := by
  obtain ⟨e1, e2, e3, e4, e5⟩ := E
  have hM9 : ∀ y, y = bu + 1 → M y := fun y hy => by rw [hy]; exact e5
  obtain ⟨sd, r1⟩ := (Wr_rn e1).1
  refine ⟨WrAt_fc e1 f (fun y hy => by omega) (fun y _ hy => ?_) (by omega) hr, K20_fc e2 f hM9, MB_fc e3 f, e4, e5⟩
  subst hy
  refine ⟨fun fs h9 => ?_, fun σ h9 => ?_, fun n g h8 => ?_⟩
  · rw [r1] at h9; cases h9
  · rw [r1] at h9; cases h9
  · rw [r1] at h8; cases h8
theorem Env_nW (E : EnvW M b0 bu κ h L d K t yy ea) (f : FC nW c m h h') : EnvW M b0 bu κ h' L d K t yy ea := by
  obtain ⟨e1, e2, e3, e4, e5⟩ := E
  exact ⟨WrAt_fc e1 f (fun y hy => hy.elim) WOK_nW (fun h => h) (Rn_fc (Wr_rn e1).1 f (Wr_rn e1).2 (fun h => h)), K20_fc e2 f nW_any, MB_fc e3 f, e4, e5⟩
theorem WOK_own {x1 : List Value} {n1 n2 n3 : Nat} {f1 f2 : Nat → Int32} {g3 : Nat → Option Nat} (h1 : hM h a = some (.inr (12, x1))) (h2 : hM h pu = some (.inl (0, n1, .inl f1))) (h3 : hM h wo = some (.inl (0, n2, .inl f2))) (h4 : hM h ha = some (rfA n3 6 g3)) (h5 : wo = pu + 1 ∧ ha = pu + 2) : WOK h (ownW a pu wo ha) := by
  obtain ⟨h5, h6⟩ := h5
  intro y _ hy
  rcases hy with rfl | rfl | rfl | rfl
  · refine ⟨fun fs h9 => ?_, fun σ h9 => ?_, fun n g h8 => ?_⟩
    · rw [h1] at h9; cases h9
    · rw [h1] at h9; cases h9
    · rw [h1] at h8; cases h8
  · refine ⟨fun fs h9 => ?_, fun σ h9 => ?_, fun n g _ _ σ h9 => ?_⟩
    · rw [h2] at h9; cases h9
    · rw [h2] at h9; cases h9
    · rw [← h5, h3] at h9; cases h9
  · refine ⟨fun fs h9 => ?_, fun σ h9 => ?_, fun n g _ _ σ h9 => ?_⟩
    · rw [h3] at h9; cases h9
    · rw [h3] at h9; cases h9
    · rw [show y + 1 = ha by omega, h4] at h9; cases h9
  · refine ⟨fun fs h9 => ?_, fun σ h9 => ?_, fun n g h8 => ?_⟩
    · rw [h4] at h9; cases h9
    · rw [h4] at h9; cases h9
    · rw [h4] at h8; cases h8
theorem Env_own (E : EnvW M b0 bu κ h L d K t yy ea) (q : SaleP M h a pu wo ha lo bi P tv e fp) (f : FC (ownW a pu wo ha) c m h h') (ho : ∀ x, ownW a pu wo ha x → bu + 1 < x) : EnvW M b0 bu κ h' L d K t yy ea := by
  have hm := P_own q
  obtain ⟨e1, e2, e3, e4, e5⟩ := E
  obtain ⟨q1, q2, ⟨fw, gh, q3, q4, q5, -⟩, -⟩ := q
  exact ⟨WrAt_fc e1 f (fun y hy => Or.inr (by have := ho y hy; omega)) (WOK_own q1 q3 q4 q5 q2.2.2.2) (fun hy => by have := ho _ hy; omega) (Rn_fc (Wr_rn e1).1 f (Wr_rn e1).2 (fun hy => by have := ho _ hy; omega)), K20_fc e2 f hm, MB_fc e3 f, e4, e5⟩
theorem Env_wr (E : EnvW M b0 bu κ h L d K t yy ea) (w : WrAt M b0 bu h' d K t yy ea S) (f : FC (wrW b0 bu) c m h h') : EnvW M b0 bu κ h' S d K t yy ea := ⟨w, K20_fc E.2.1 f (Wr_W E.1), MB_fc E.2.2.1 f, E.2.2.2⟩
theorem P_wr (E : EnvW M b0 bu κ h L d K t yy ea) (q : SaleP M h a pu wo ha lo bi P tv e fp) (f : FC (wrW b0 bu) c m h h') (ho : ∀ x, ownW a pu wo ha x → bu + 1 < x) : SaleP M h' a pu wo ha lo bi P tv e fp := SaleP_fc q f (Wr_W E.1) (fun x hx hw => by have := ho x hx; have := E.2.2.2.1; rcases hw with hw | hw; have := hw.2; omega; omega)
theorem P_rn (E : EnvW M b0 bu κ h L d K t yy ea) (q : SaleP M h a pu wo ha lo bi P tv e fp) (f : FC (fun x => x = bu + 1) c m h h') (ho : ∀ x, ownW a pu wo ha x → bu + 1 < x) : SaleP M h' a pu wo ha lo bi P tv e fp := SaleP_fc q f (fun y hy => by rw [hy]; exact E.2.2.2.2) (fun x hx hw => by have := ho x hx; omega)
theorem E_below {bd : Nat} (E : EnvW M b0 bu κ h L d K t yy ea) (h0 : 0 < bd) (h1 : bd < 2 ^ 31) : ∃ (v : Nat) (h' : zH), v < bd ∧ (∀ F : Option (Int32 × zH), onO 11 (bu + 1) h F = F) ∧ f_X11_below N (bu + 1) (nI bd) h = some (nI v, h') ∧ EnvW M b0 bu κ h' L d K t yy ea ∧ FC (fun x => x = bu + 1) 0 0 h h' := by
  obtain ⟨v, sd, b1, b2, b3⟩ := L_below (N := N) (Wr_rn E.1).1 h0 h1
  obtain ⟨R1, F1⟩ := Rn_put (h := h) (rn := bu + 1) (sd := sd)
  exact ⟨v, _, b1, b2, b3, Env_rn E F1 R1, F1⟩
/-- numbers in a row, written -/
theorem E_nums {i : Nat} {ns : List Nat} (hNN : 1400 < N) (E : EnvW M b0 bu κ h L d K t yy ea) (hi : i < 20) (hns : ns.length < 100) {nu : Nat} {g : Nat → Int32} (hm : hM h nu = some (.inl (0, ns.length, .inl g))) (hn : nu < hS h) (hnu : bu < nu) (hg : ∀ j, j < ns.length → g j = nI (ns.getD j 0) ∧ ns.getD j 0 < 100000) (hl : L.length + (kS i).length + 6 * ns.length + 1 ≤ 660) : ∃ h', f_L_writeNumbers N κ b0 bu (κ i) nu h = some h' ∧ EnvW M b0 bu κ h' (L ++ (kS i ++ (nsX ns ++ [59]))) d K t yy ea ∧ FC (wrW b0 bu) 0 0 h h' := by
  obtain ⟨h', w1, w2, w3⟩ := L_writeNumbers (N := N) (κ := κ) hNN (fun hw => by have := E.2.2.2.1; rcases hw with hw | hw; have := hw.2; omega; omega) hns hm hn hg E.1 E.2.1 (E.2.1 i hi) hl
  exact ⟨h', w1, Env_wr E w2 w3, w3⟩
end M87

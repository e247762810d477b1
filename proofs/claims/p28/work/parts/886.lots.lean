/-! ===== lots by chance ===== -/
section M886
variable {M M' W : Nat → Prop} {h h' : zH} {N n c m a pu wo ha lo bi P b0 bu K k v : Nat} {tv : Value} {d e t : Nat → Nat} {yy : Nat × (Nat → Nat → Nat) × (Nat → Nat) × (Nat → Nat → Nat)} {ea : Int32} {L S : List Nat} {κ : Nat → Nat} {fp : Nat → Int32}
theorem SaleP_M (q : SaleP M h a pu wo ha lo bi P tv e fp) (hm : ∀ y, y < hS h → M' y → M y) (hm2 : ∀ y, M y → M' y) : SaleP M' h a pu wo ha lo bi P tv e fp := by
  obtain ⟨q1, ⟨o1, ⟨m1, m2, m3, m4⟩, o3⟩, ⟨fw, gh, q3, q4, q5, q6, q7⟩, gb, q8⟩ := q
  refine ⟨q1, ⟨o1, ⟨hm2 _ m1, hm2 _ m2, hm2 _ m3, hm2 _ m4⟩, o3⟩, ⟨fw, gh, q3, q4, q5, fun p hp => ?_, q7⟩, gb, IM_M q8 hm⟩
  obtain ⟨p1, r, p2, p3⟩ := q6 p hp
  exact ⟨p1, r, p2, CardsAt_M p3 hm⟩
theorem Env_M (E : EnvW M b0 bu κ h L d K t yy ea) (hm : ∀ y, y < hS h → M' y → M y) (hm2 : ∀ y, M y → M' y) (b : MB M' h) : EnvW M' b0 bu κ h L d K t yy ea := ⟨⟨E.1.1, E.1.2.1, E.1.2.2.1, E.1.2.2.2.1, E.1.2.2.2.2.1, fun x hx => hm2 x (E.1.2.2.2.2.2.1 x hx), E.1.2.2.2.2.2.2⟩, K20_M E.2.1 hm, b, E.2.2.2.1, hm2 _ E.2.2.2.2⟩
/-- another field of the object -/
theorem P_obj {i : Nat} {x : Value} {lo' : Nat} {tv' : Value} {e' : Nat → Nat} (q : SaleP M h a pu wo ha lo bi P tv e fp) (hi : i < 12) (hs : (saleL pu wo ha lo bi tv e).set i x = saleL pu wo ha lo' bi tv' e') (he : e' = e) : ∃ h', pF h a 12 i x = some h' ∧ SaleP M h' a pu wo ha lo' bi P tv' e' fp ∧ FC (ownW a pu wo ha) 0 0 h h' := by
  subst he
  obtain ⟨q1, q2, ⟨fw, gh, q3, q4, q5, q6, q7⟩, gb, q8⟩ := q
  obtain ⟨⟨b1, b2, b3, b4⟩, ⟨m1, m2, m3, m4⟩, ⟨n1, n2, n3, n4, n5, n6⟩, -⟩ := id q2
  have f : FC (fun x => x = a) 0 0 h (hPut h a (saleO pu wo ha lo' bi tv' e')) := FC_put
  have hM9 : ∀ y, y = a → M y := fun y hy => by rw [hy]; exact m1
  refine ⟨hPut h a (saleO pu wo ha lo' bi tv' e'), by rw [pF_of' q1 hi, hs], ⟨hM_put_eq, OwnP_fc q2 f, ⟨fw, gh, (hM_put_ne (Ne.symm n1)).trans q3, (hM_put_ne (Ne.symm n2)).trans q4, (hM_put_ne (Ne.symm n3)).trans q5, fun p hp => ?_, q7⟩, gb, IM_fc q8 f hM9 (fun σ e => by cases e)⟩, FC_mono f (Nat.le_refl _) (Nat.le_refl _) (fun x _ hx => Or.inl hx)⟩
  obtain ⟨p1, r, p2, p3⟩ := q6 p hp
  exact ⟨p1, r, p2, CardsAt_fc p3 f hM9⟩
/-- the row of lots -/
def LoAt (h : zH) (lo m : Nat) (e : Nat → Nat) : Prop := (∃ fl : Nat → Int32, hM h lo = some (.inl (0, m, .inl fl)) ∧ ∀ l, l < e 2 → fl l = nI (e (106 + l))) ∧ lo < hS h ∧ (lo + 1 < hS h → ∃ n f, hM h (lo + 1) = some (.inl (0, n, .inl f)))
theorem Lo_fc (q : LoAt h lo m e) (f : FC W c n h h') (h1 : ¬ W lo) (h2 : ¬ W (lo + 1)) (h3 : hS h' = hS h ∨ lo + 1 < hS h) : LoAt h' lo m e := by
  obtain ⟨⟨fl, q1, q2⟩, q3, q4⟩ := q
  refine ⟨⟨fl, cell_fc q1 q3 f h1 (fun σ e => by cases e), q2⟩, Nat.lt_of_lt_of_le q3 f.1.1, fun h9 => ?_⟩
  obtain ⟨n, g, g1⟩ := q4 (by omega)
  exact ⟨n, g, cell_fc g1 (by omega) f h2 (fun σ e => by cases e)⟩
theorem SaleP_e {e' : Nat → Nat} (q : SaleP M h a pu wo ha lo bi P tv e fp) (he : ∀ j, j = 0 ∨ j = 1 ∨ j = 3 ∨ j = 4 ∨ j = 6 ∨ j = 7 ∨ j = 8 ∨ (11 ≤ j ∧ j < 106) → e' j = e j) (h5 : e 1 ≤ 5) (h8 : ∀ p, p < e 1 → e (11 + 19 * p + 1) ≤ 8) : SaleP M h a pu wo ha lo bi P tv e' fp := by
  obtain ⟨q1, q2, ⟨fw, gh, q3, q4, q5, q6, q7⟩, q8⟩ := q
  have e0 := he 0 (by omega)
  have e1 := he 1 (by omega)
  refine ⟨?_, q2, ⟨fw, gh, q3, q4, q5, fun p hp => ?_, q7⟩, q8⟩
  · rw [q1]
    unfold saleO saleL
    rw [e0, he 3 (by omega), he 4 (by omega), he 6 (by omega), he 7 (by omega), he 8 (by omega)]
  · rw [e1] at hp
    obtain ⟨p1, r, p2, p3⟩ := q6 p hp
    have := h8 p hp
    refine ⟨by rw [he _ (by omega)]; exact p1, r, p2, CardsAt_eq p3 e0.symm (he _ (by omega)).symm (fun c hc => ?_) (fun c hc => ?_) (fun c x _ hx => hx)⟩
    · rw [e0, he (11 + 19 * p + 3 + 2 * c) (by omega)]
    · rw [he (11 + 19 * p + 3 + 2 * c + 1) (by omega)]
theorem bd_lots (hNN : 1400 < N) (hm4 : m < 4) (hlM : M lo) (hlo : bu + 1 < lo) (hlo2 : ∀ x, ownW a pu wo ha x → x ≠ lo ∧ x ≠ lo + 1) : ∀ (r i fu ns : Nat) (h : zH) (L : List Nat) (e : Nat → Nat), i + r = m → r < fu → Bd M b0 bu κ h L e ns a pu wo ha lo bi P tv fp d K t yy ea → LoAt h lo m e → e 2 = i → L.length + 9 * r ≤ 620 → ns + r < 550 → ∃ h' L' e', (∀ k1, f_L_randomSale_l282 N κ b0 bu (bu + 1) a (nI P) k1 fu (nI i) h = k1 h') ∧ Bd M b0 bu κ h' L' e' (ns + r) a pu wo ha lo bi P tv fp d K t yy ea ∧ LoAt h' lo m e' ∧ e' 2 = m ∧ e' 1 = e 1 ∧ e' 0 = e 0 ∧ L'.length ≤ L.length + 9 * r ∧ FC anW r r h h' := by
  intro r
  induction r with
  | zero =>
    intro i fu ns h L e hi hf B hlA he hl hn
    obtain ⟨f, rfl⟩ : ∃ f, fu = f + 1 := ⟨fu - 1, by omega⟩
    have g4 := (P_rd B.2.1).2.2.2
    obtain ⟨⟨fl, l1, -⟩, -⟩ := id hlA
    have l2 : aLen h lo = some (nI m) := aLen_of' l1 (by decide)
    refine ⟨h, L, e, fun k1 => ?_, B, hlA, by omega, rfl, rfl, Nat.le_refl _, FC_rf⟩
    rw [f_L_randomSale_l282]
    simp (disch := omega) only [g4, l2, nleT, Option.bind_some, ↓reduceIte]
  | succ r ih =>
    intro i fu ns h L e hi hf B hlA he hl hn
    obtain ⟨f, rfl⟩ : ∃ f, fu = f + 1 := ⟨fu - 1, by omega⟩
    obtain ⟨E, q, hP, hD, ho, hP5⟩ := B
    have g4 := (P_rd q).2.2.2
    obtain ⟨⟨fl, l1, l1b⟩, l1s, l1n⟩ := id hlA
    have l2 : aLen h lo = some (nI m) := aLen_of' l1 (by decide)
    obtain ⟨v, h1, a1, a2, a3, E1, f1⟩ := E_below (N := N) (bd := 9999) E (by omega) (by omega)
    have q1 := P_rn E q f1 ho
    have hA1 := Lo_fc hlA f1 (by omega) (by omega) (Or.inl (by have := f1.1.1; have := f1.1.2; omega))
    obtain ⟨⟨fl1, k1, k2⟩, k3, k4⟩ := id hA1
    have s1 : stI h1 lo (nI i) (nI (1 + v)) = some (hPut h1 lo (.inl (0, m, .inl (upd fl1 i (nI (1 + v)))))) := stI_of' k1 (by omega) (by omega)
    have f2 : FC (fun x => x = lo) 0 0 h1 (hPut h1 lo (.inl (0, m, .inl (upd fl1 i (nI (1 + v)))))) := FC_put
    have s1c : hM (hPut h1 lo (.inl (0, m, .inl (upd fl1 i (nI (1 + v)))))) lo = some (.inl (0, m, .inl (upd fl1 i (nI (1 + v))))) := hM_put_eq
    have s1s : hS (hPut h1 lo (.inl (0, m, .inl (upd fl1 i (nI (1 + v)))))) = hS h1 := rfl
    have s1n : lo + 1 < hS h1 → ∃ n f, hM (hPut h1 lo (.inl (0, m, .inl (upd fl1 i (nI (1 + v)))))) (lo + 1) = some (.inl (0, n, .inl f)) := fun h9 => by
      obtain ⟨n, g, g1⟩ := k4 h9
      exact ⟨n, g, (hM_put_ne (by omega)).trans g1⟩
    generalize hPut h1 lo (.inl (0, m, .inl (upd fl1 i (nI (1 + v))))) = h2 at s1 f2 s1c s1s s1n
    have hbh := E1.1.2.2.2.1.2
    have E2 : EnvW M b0 bu κ h2 L d K t yy ea := by
      obtain ⟨z1, z2, z3, z4, z5⟩ := E1
      refine ⟨WrAt_fc z1 f2 (fun y hy => Or.inr (by omega)) (fun y _ hy => ?_) (by omega) (Rn_fc (Wr_rn z1).1 f2 (Wr_rn z1).2 (by omega)), K20_fc z2 f2 (fun y hy => by rw [hy]; exact hlM), MB_fc z3 f2, z4, z5⟩
      subst hy
      refine ⟨fun fs h9 => ?_, fun σ h9 => ?_, fun n g _ hlt σ h9 => ?_⟩
      · rw [k1] at h9; cases h9
      · rw [k1] at h9; cases h9
      · obtain ⟨n', g', g1⟩ := k4 hlt
        rw [g1] at h9; cases h9
    have q2 := SaleP_fc q1 f2 (fun y hy => by rw [hy]; exact hlM) (fun x hx hw => (hlo2 x hx).1 hw)
    -- written
    obtain ⟨h3, w1, w2, w3, w4, w5⟩ := row1 (h := h2) (x := 1 + v)
    have f03 : FC nW 1 1 h2 (hNew h2 (.inl (0, 1, .inl (fun _ => nI 0))) 1) := FC_new
    have q3' := SaleP_fc q2 f03 nW_any (fun _ _ h => h)
    have rd3 := (P_rd q3').2.2.2
    have l3 : ldI (hNew h2 (.inl (0, 1, .inl (fun _ => nI 0))) 1) lo (nI i) = some (nI (1 + v)) := by
      rw [ldI_of' (cell_fc s1c (by omega) f03 (fun h => h) (fun σ e => by cases e)) (by omega) (by omega), upS_eq]
    have E3 := Env_nW E2 w4
    have q3 := SaleP_fc q2 w4 nW_any (fun _ _ h => h)
    obtain ⟨h4, n1, E4, n3⟩ := E_nums (N := N) (i := 3) (ns := [1 + v]) (nu := hS h2) (g := upd (fun _ => nI 0) 0 (nI (1 + v))) hNN E3 (by omega) (by show 1 < 100; omega) w3 (by omega) (by have := E2.1.2.2.2.1.2; omega) (fun j hj => by
      have hj : j < 1 := hj
      have : j = 0 := by omega
      subst this
      exact ⟨upS_eq _ _ _, by show 1 + v < 100000; omega⟩) (by have : (kS 3).length = 3 := rfl; show L.length + _ + 6 * 1 + 1 ≤ 660; omega)
    rw [lo_eq] at E4
    have q4 := P_wr E3 q3 n3 ho
    have hP4 := Prs_lo hP (by omega) (show e 2 < 12 by omega) (show 1 ≤ 1 + v by omega) (show 1 + v ≤ 9999 by omega)
    have hD4 : LD (loN e (1 + v)) := LD_lo hD (by omega) (by omega)
    have q4' := SaleP_e (e' := loN e (1 + v)) q4 (fun j hj => loN_ne (by omega) (by omega)) (by have := hD.2.1.1; omega) (fun p hp => (hD.2.2.2.2.1 p hp).2.1)
    have hlw : ∀ x, bu + 1 < x → ¬ wrW b0 bu x := fun x hx hw => by have := E.2.2.2.1; rcases hw with hw | hw; have := hw.2; omega; omega
    have c3 : hM h4 lo = some (.inl (0, m, .inl (upd fl1 i (nI (1 + v))))) := cell_fc (cell_fc s1c (by omega) w4 (fun h => h) (fun σ e => by cases e)) (by omega) n3 (hlw _ hlo) (fun σ e => by cases e)
    have c4 : ∃ n f, hM h4 (lo + 1) = some (.inl (0, n, .inl f)) := by
      by_cases h9 : lo + 1 < hS h1
      · obtain ⟨n, g, g1⟩ := s1n h9
        exact ⟨n, g, cell_fc (cell_fc g1 (by omega) w4 (fun h => h) (fun σ e => by cases e)) (by omega) n3 (hlw _ (by omega)) (fun σ e => by cases e)⟩
      · have : hS h2 = lo + 1 := by omega
        rw [this] at w3
        exact ⟨_, _, cell_fc w3 (by omega) n3 (hlw _ (by omega)) (fun σ e => by cases e)⟩
    have hA4 : LoAt h4 lo m (loN e (1 + v)) := ⟨⟨_, c3, fun l hl => by
      rw [loN_2] at hl
      by_cases hli : l = e 2
      · rw [hli, loN_l, he]; exact upS_eq _ _ _
      · rw [loN_ne (by omega) (by omega), ← k2 l (by omega)]
        exact upS_ne (by omega)⟩, by have := n3.1.1; omega, fun _ => c4⟩
    have hll := lo_len (v := 1 + v) (by omega)
    have hLl : (L ++ loX (1 + v)).length ≤ L.length + 9 := by rw [List.length_append]; omega
    obtain ⟨h', L', e', i1, i2, i3, i4, i5, i6, i7, i8⟩ := ih (i + 1) f (ns + 1) h4 (L ++ loX (1 + v)) (loN e (1 + v)) (by omega) (by omega) ⟨E4, q4', hP4, hD4, ho, hP5⟩ hA4 (by rw [loN_2, he]) (by omega) (by omega)
    refine ⟨h', L', e', fun k1 => ?_, by rw [show ns + (r + 1) = ns + 1 + r by omega]; exact i2, i3, i4, i5.trans (loN_ne (by omega) (by omega)), i6.trans (loN_ne (by omega) (by omega)), by omega, FC_mono (FC_tr (FC_an f1) (FC_tr (FC_an f2) (FC_tr (FC_an w4) (FC_tr (FC_an n3) i8)))) (by omega) (by omega) (fun _ _ h => h)⟩
    rw [f_L_randomSale_l282]
    simp (disch := omega) only [g4, l2, nleF, a2, a3, nlit, nadd, s1, w1, rd3, l3, w2, n1, i1, Option.bind_some, ↓reduceIte]
end M886

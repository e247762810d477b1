/-! ===== the auction by chance ===== -/
section M88
variable {M W : Nat → Prop} {h h' : zH} {N n c m a pu wo ha lo bi P b0 bu K k v : Nat} {tv : Value} {d e t : Nat → Nat} {yy : Nat × (Nat → Nat → Nat) × (Nat → Nat) × (Nat → Nat → Nat)} {ea : Int32} {L S : List Nat} {κ : Nat → Nat} {fp : Nat → Int32}
theorem init9 {x1 x2 x3 : Value} {pl : Int32} {er bs : Nat} (hm : hM h c = some (.inr (9, [x1, x2, x3]))) : f_X9_init N c pl er (nI bs) h = some (hPut h c (.inr (9, [.int pl, .ref er, .int (nI bs)]))) := by
  have p1 : pF h c 9 0 (.int pl) = some (hPut h c (.inr (9, [.int pl, x2, x3]))) := pF_of' hm (by show 0 < 3; decide)
  have p2 : pF (hPut h c (.inr (9, [.int pl, x2, x3]))) c 9 1 (.ref er) = some (hPut h c (.inr (9, [.int pl, .ref er, x3]))) := by rw [pF_of' hM_put_eq (by show 1 < 3; decide), put_put]; rfl
  have p3 : pF (hPut h c (.inr (9, [.int pl, .ref er, x3]))) c 9 2 (.int (nI bs)) = some (hPut h c (.inr (9, [.int pl, .ref er, .int (nI bs)]))) := by rw [pF_of' hM_put_eq (by show 2 < 3; decide), put_put]; rfl
  rw [f_X9_init, p1, Option.bind_some, p2, Option.bind_some, p3, Option.bind_some]
theorem ca_eq {p x y : Nat} : kS 2 ++ (nsX [p, x, y] ++ [59]) = caX p x y := by
  show wdN.getD 2 [] ++ (((32 :: digX p) ++ ((32 :: digX x) ++ ((32 :: digX y) ++ []))) ++ [59]) = _
  unfold caX
  simp only [List.append_assoc, List.cons_append, List.append_nil, List.nil_append]
theorem gr_eq {p : Nat} : kS 0 ++ (nsX [p] ++ [59]) = grX p := by
  show wdN.getD 0 [] ++ (((32 :: digX p) ++ []) ++ [59]) = _
  unfold grX
  simp only [List.append_nil, List.cons_append]
theorem pl_eq {p : Nat} : kS 1 ++ (nsX [p] ++ [59]) = plX p := by
  show wdN.getD 1 [] ++ (((32 :: digX p) ++ []) ++ [59]) = _
  unfold plX
  simp only [List.append_nil, List.cons_append]
theorem lo_eq {p : Nat} : kS 3 ++ (nsX [p] ++ [59]) = loX p := by
  show wdN.getD 3 [] ++ (((32 :: digX p) ++ []) ++ [59]) = _
  unfold loX
  simp only [List.append_nil, List.cons_append]
theorem ca_len {p x y : Nat} (hp : p < 10) (hx : x < 100000) (hy : y < 1000) : (caX p x y).length ≤ 17 := by
  have h1 : (digX p).length = 1 := by unfold digX; rw [if_pos hp]; rfl
  have h2 := (digX_ok hx).2.2.2
  have h3 : (digX y).length ≤ 3 := by
    rw [sz_dig (by omega)]
    unfold szN
    split <;> (try split) <;> (try split) <;> omega
  unfold caX
  rw [List.length_append, List.length_cons, List.length_append, List.length_cons, List.length_append, List.length_cons, List.length_append]
  show 4 + _ ≤ 17
  have : [59].length = 1 := rfl
  omega
theorem pl_len {v : Nat} (hv : v < 100000) : (plX v).length ≤ 13 := by
  have := (digX_ok hv).2.2.2
  unfold plX
  rw [List.length_append, List.length_cons, List.length_append]
  show 6 + _ ≤ 13
  have : [59].length = 1 := rfl
  omega
theorem lo_len {v : Nat} (hv : v < 10000) : (loX v).length ≤ 9 := by
  have : (digX v).length ≤ 4 := by
    rw [sz_dig hv]
    unfold szN
    split <;> (try split) <;> (try split) <;> omega
  unfold loX
  rw [List.length_append, List.length_cons, List.length_append]
  show 3 + _ ≤ 9
  have : [59].length = 1 := rfl
  omega
/-- a row of numbers, made for a call -/
theorem row1 {x : Nat} : ∃ h2, nwI h (nI 1) = some (hS h, hNew h (.inl (0, 1, .inl (fun _ => nI 0))) 1) ∧ stI (hNew h (.inl (0, 1, .inl (fun _ => nI 0))) 1) (hS h) (nI 0) (nI x) = some h2 ∧ hM h2 (hS h) = some (.inl (0, [x].length, .inl (upd (fun _ => nI 0) 0 (nI x)))) ∧ FC nW 1 1 h h2 ∧ hS h2 = hS h + 1 := by
  have w : nwI h (nI 1) = _ := nwI_of (by omega)
  have s : stI (hNew h (.inl (0, 1, .inl (fun _ => nI 0))) 1) (hS h) (nI 0) (nI x) = some (hNew h (.inl (0, 1, .inl (upd (fun _ => nI 0) 0 (nI x)))) 1) := by rw [stI_of' hM_new_eq (by omega) (by omega), new_put]
  exact ⟨_, w, s, hM_new_eq, FC_new, hS_new _ _ _⟩
/-- what a step leaves -/
def Bd (M : Nat → Prop) (b0 bu : Nat) (κ : Nat → Nat) (h : zH) (L : List Nat) (e : Nat → Nat) (ns : Nat) (a pu wo ha lo bi P : Nat) (tv : Value) (fp : Nat → Int32) (d : Nat → Nat) (K : Nat) (t : Nat → Nat) (yy : Nat × (Nat → Nat → Nat) × (Nat → Nat) × (Nat → Nat → Nat)) (ea : Int32) : Prop := EnvW M b0 bu κ h L d K t yy ea ∧ SaleP M h a pu wo ha lo bi P tv e fp ∧ Prs L e 0 1 (fun _ => 10000) ns ∧ LD e ∧ (∀ x, ownW a pu wo ha x → bu + 1 < x) ∧ P < 5
theorem give_rd {p x y : Nat} (hc : e (11 + 19 * p + 1) < 8) : giveN e p x y (11 + 19 * p + 1) = e (11 + 19 * p + 1) + 1 ∧ giveN e p x y (11 + 19 * p + 3 + 2 * e (11 + 19 * p + 1)) = x ∧ giveN e p x y (11 + 19 * p + 3 + 2 * e (11 + 19 * p + 1) + 1) = y ∧ ∀ j, j ≠ 11 + 19 * p + 1 → j ≠ 11 + 19 * p + 3 + 2 * e (11 + 19 * p + 1) → j ≠ 11 + 19 * p + 3 + 2 * e (11 + 19 * p + 1) + 1 → giveN e p x y j = e j := by
  unfold giveN
  refine ⟨upN_eq _ _ _, ?_, ?_, fun j j1 j2 j3 => ?_⟩
  · rw [upN_ne (by omega), upN_ne (by omega), upN_eq]
  · rw [upN_ne (by omega), upN_eq]
  · rw [upN_ne j1, upN_ne j3, upN_ne j2]
theorem bd_cards (hNN : 1400 < N) (hk4 : k < P) : ∀ (r fu ns : Nat) (h : zH) (L : List Nat) (e : Nat → Nat), r < fu → Bd M b0 bu κ h L e ns a pu wo ha lo bi P tv fp d K t yy ea → e 1 = k + 1 → e (11 + 19 * k + 1) + r ≤ 6 → L.length + 17 * r ≤ 600 → ns + r < 600 → ∃ h' L' e', (∀ k1, f_L_randomSale_l153 N κ b0 bu (bu + 1) (nI 6) a (nI P) (nI k) k1 fu (nI r) h = k1 h') ∧ Bd M b0 bu κ h' L' e' (ns + r) a pu wo ha lo bi P tv fp d K t yy ea ∧ e' 1 = k + 1 ∧ e' 0 = e 0 ∧ e' 2 = e 2 ∧ L'.length ≤ L.length + 17 * r ∧ FC anW (4 * r) (19 * r) h h' ∧ (∀ p, k < p → e' (11 + 19 * p) = e (11 + 19 * p)) := by
  intro r
  induction r with
  | zero =>
    intro fu ns h L e hf B he hc hl hn
    obtain ⟨f, rfl⟩ : ∃ f, fu = f + 1 := ⟨fu - 1, by omega⟩
    refine ⟨h, L, e, fun k1 => ?_, B, he, rfl, rfl, Nat.le_refl _, FC_rf, fun _ _ => rfl⟩
    rw [f_L_randomSale_l153]
    simp (disch := omega) only [nlit, nleT, ↓reduceIte]
  | succ r ih =>
    intro fu ns h L e hf B he hc hl hn
    obtain ⟨f, rfl⟩ : ∃ f, fu = f + 1 := ⟨fu - 1, by omega⟩
    obtain ⟨E, q, hP, hD, ho, hP5⟩ := B
    have hin := hD.1
    have hin2 := inN_lt hin
    have f8 := fct_le hin
    obtain ⟨rn0, rn1⟩ := Wr_rn E.1
    -- the new card's place
    have f0 : FC nW 1 3 h (hNew h (.inr (9, [.int (nI 0), .null, .int (nI 0)])) 3) := FC_new
    have w0 : nwOb 9 [.int (nI 0), .null, .int (nI 0)] h = some (hS h, hNew h (.inr (9, [.int (nI 0), .null, .int (nI 0)])) 3) := rfl
    have m0 : hM (hNew h (.inr (9, [.int (nI 0), .null, .int (nI 0)])) 3) (hS h) = some (.inr (9, [.int (nI 0), .null, .int (nI 0)])) := hM_new_eq
    have s0 : hS (hNew h (.inr (9, [.int (nI 0), .null, .int (nI 0)])) 3) = hS h + 1 := hS_new _ _ _
    generalize hNew h (.inr (9, [.int (nI 0), .null, .int (nI 0)])) 3 = h1 at f0 w0 m0 s0
    have E1 := Env_nW E f0
    have q1 := SaleP_fc q f0 nW_any (fun _ _ h => h)
    have g0 := (P_rd q1).1
    -- its element
    obtain ⟨g, h2, x, a1, a2, a3, a4, a5, a6, a7⟩ := L_random (N := N) (n := e 0) (rn := bu + 1) (by omega) hin (Wr_rn E1.1).1 (Wr_rn E1.1).2
    have E2 := Env_rn E1 a6 a5
    -- its base
    obtain ⟨u, h3, b1, b2, b3, E3, b4⟩ := E_below (N := N) (bd := 4) E2 (by omega) (by omega)
    obtain ⟨y, h4, y1, c2, c3, E4, c4, yb⟩ : ∃ (y : Nat) (h4 : zH), y < 999 ∧ (∀ F : Option (Int32 × zH), onO 11 (bu + 1) h3 F = F) ∧ f_X11_below N (bu + 1) (if u = 0 then nI 999 else nI 9) h3 = some (nI y, h4) ∧ EnvW M b0 bu κ h4 L d K t yy ea ∧ FC (fun x => x = bu + 1) 0 0 h3 h4 ∧ True := by
      by_cases hu : u = 0
      · rw [if_pos hu]
        obtain ⟨y, h4, y1, y2, y3, y4, y5⟩ := E_below (N := N) (bd := 999) E3 (by omega) (by omega)
        exact ⟨y, h4, y1, y2, y3, y4, y5, trivial⟩
      · rw [if_neg hu]
        obtain ⟨y, h4, y1, y2, y3, y4, y5⟩ := E_below (N := N) (bd := 9) E3 (by omega) (by omega)
        exact ⟨y, h4, by omega, y2, y3, y4, y5, trivial⟩
    -- frames from the start
    have frn : ∀ {c m : Nat} {k k' : zH}, FC nW c m k k' → FC (fun x => x = bu + 1) c m k k' := fun f => FC_mono f (Nat.le_refl _) (Nat.le_refl _) (fun _ _ h => h.elim)
    have fr4 := FC_tr a6 (FC_tr b4 c4)
    have hbh : bu + 1 < hS h := rn1
    have m4 : hM h4 (hS h) = some (.inr (9, [.int (nI 0), .null, .int (nI 0)])) := cell_fc m0 (by omega) fr4 (by omega) (fun σ e => by cases e)
    have er4 : hM h4 (hS h1) = some (.inl (0, e 0, .inl g)) := cell_fc a3 (by omega) (FC_tr b4 c4) (by omega) (fun σ e => by cases e)
    have i9 := init9 (N := N) (pl := nI k) (er := hS h1) (bs := 1 + y) m4
    have f5 : FC (fun x => x = hS h) 0 0 h4 (hPut h4 (hS h) (.inr (9, [.int (nI k), .ref (hS h1), .int (nI (1 + y))]))) := FC_put
    have s4 : hS h < hS h4 := by have := fr4.1.1; omega
    have er4s : hS h1 < hS h4 := by have := b4.1.1; have := c4.1.1; omega
    have m5 : hM (hPut h4 (hS h) (.inr (9, [.int (nI k), .ref (hS h1), .int (nI (1 + y))]))) (hS h) = some (.inr (9, [.int (nI k), .ref (hS h1), .int (nI (1 + y))])) := hM_put_eq
    have er5 : hM (hPut h4 (hS h) (.inr (9, [.int (nI k), .ref (hS h1), .int (nI (1 + y))]))) (hS h1) = some (.inl (0, e 0, .inl g)) := (hM_put_ne (by omega)).trans er4
    have s5 : hS (hPut h4 (hS h) (.inr (9, [.int (nI k), .ref (hS h1), .int (nI (1 + y))]))) = hS h4 := rfl
    generalize hPut h4 (hS h) (.inr (9, [.int (nI k), .ref (hS h1), .int (nI (1 + y))])) = h5 at i9 f5 m5 er5 s5
    have f05 : FC (fun x => x = bu + 1) 2 8 h h5 := FC_mono (W := fun x => x = bu + 1 ∨ x = hS h) (FC_tr (FC_mono f0 (Nat.le_refl _) (Nat.le_refl _) (fun _ _ h => h.elim)) (FC_tr (FC_mono fr4 (Nat.le_refl _) (Nat.le_refl _) (fun _ _ h => Or.inl h)) (FC_mono f5 (Nat.le_refl _) (Nat.le_refl _) (fun _ _ h => Or.inr h)))) (by omega) (by omega) (fun z hz hw => by rcases hw with hw | hw; exact hw; omega)
    have R5 : RnAt h5 (bu + 1) := by
      obtain ⟨sd, r9⟩ := (Wr_rn E4.1).1
      exact ⟨sd, cell_fc r9 (Wr_rn E4.1).2 f5 (by omega) (fun σ e => by cases e)⟩
    have E5 := Env_rn E f05 R5
    have q5 := P_rn E q f05 ho
    have nM : ∀ z, hS h ≤ z → ¬ M z := fun z hz hm => by have := E.2.2.1 z hm; omega
    have cIM : IM M h5 (hS h) (.inr (9, [.int (nI k), .ref (hS h1), .int (nI (1 + y))])) := ⟨m5, by omega, nM _ (Nat.le_refl _)⟩
    have eR : RowAt M h5 (hS h1) (e 0) x := ⟨g, ⟨er5, by omega, nM _ (by omega)⟩, a4⟩
    -- the hand
    obtain ⟨r0, l1, l2⟩ := P_hand q5 (show k < e 1 by omega) (by omega) hk4
    have gv := give_rd (e := e) (p := k) (x := numN (e 0) x) (y := 1 + y) (by omega)
    obtain ⟨gw, w1, w2⟩ := S_with (N := N) (k0 := hS h) (e := x) (bs := 1 + y) (E' := fun i => idxN (e 0) (giveN e k (numN (e 0) x) (1 + y) (11 + 19 * k + 3 + 2 * i))) (B' := fun i => giveN e k (numN (e 0) x) (1 + y) (11 + 19 * k + 3 + 2 * i + 1)) (Q' := fun _ _ => True) (by omega) l2 E5.2.2.1 (by omega) cIM eR (fun i hi => by
      refine ⟨?_, gv.2.2.2 _ (by omega) (by omega) (by omega), fun _ _ => trivial⟩
      rw [gv.2.2.2 _ (by omega) (by omega) (by omega)]) ⟨by rw [gv.2.1]; exact idx_num hin a2, gv.2.2.1, trivial⟩
    have f6 : FC nW 1 (e (11 + 19 * k + 1) + 1) h5 (hNew h5 (rfA (e (11 + 19 * k + 1) + 1) 5 gw) (e (11 + 19 * k + 1) + 1)) := FC_new
    have q6 := SaleP_fc q5 f6 nW_any (fun _ _ h => h)
    have E6 := Env_nW E5 f6
    generalize hNew h5 (rfA (e (11 + 19 * k + 1) + 1) 5 gw) (e (11 + 19 * k + 1) + 1) = h6 at w1 w2 f6 q6 E6
    have go : ∀ j, j = 0 ∨ j = 1 ∨ j = 2 ∨ j = 3 ∨ j = 4 ∨ j = 6 ∨ j = 7 ∨ j = 8 → giveN e k (numN (e 0) x) (1 + y) j = e j := fun j hj => gv.2.2.2 j (by omega) (by omega) (by omega)
    have hfk : fp k = nI (e (11 + 19 * k)) := by
      obtain ⟨-, -, ⟨fw, gh, -, -, -, q9, -⟩, -⟩ := q
      exact (q9 k (by omega)).1
    obtain ⟨h7, v1, q7, f7⟩ := P_ha (k := k) (e' := giveN e k (numN (e 0) x) (1 + y)) q6 hk4 (by omega) (fun j hj => go j (by omega)) (fun p hp hpk => by
      rw [go 1 (by omega)] at hp
      refine ⟨hp, gv.2.2.2 _ (by omega) (by omega) (by omega), gv.2.2.2 _ (by omega) (by omega) (by omega), fun i hi => ?_⟩
      have : e (11 + 19 * p + 1) ≤ 8 := (hD.2.2.2.2.1 p (by omega)).2.1
      exact ⟨gv.2.2.2 _ (by omega) (by omega) (by omega), gv.2.2.2 _ (by omega) (by omega) (by omega)⟩) (by rw [gv.2.2.2 _ (by omega) (by omega) (by omega)]; exact hfk) (by rw [gv.1]; exact w2)
    have E7 := Env_own E6 q6 f7 ho
    have f57 : FC (ownW a pu wo ha) 1 8 h5 h7 := FC_mono (FC_tr (FC_mono (W' := ownW a pu wo ha) f6 (Nat.le_refl _) (Nat.le_refl _) (fun _ _ h => h.elim)) f7) (by omega) (by omega) (fun _ _ h => h)
    have hom := P_own q
    have cIM7 := IM_fc cIM f57 hom (fun σ e => by cases e)
    have eR7 := RowAt_fc eR f57 hom
    -- the numbers
    have w3 : nwI h7 (nI 3) = _ := nwI_of (by omega)
    have f8 : ∀ {f9 : Nat → Int32}, FC nW 1 3 h7 (hNew h7 (.inl (0, 3, .inl f9)) 3) := fun {f9} => FC_new
    have sN : ∀ {f9 : Nat → Int32} {i z : Nat}, i < 3 → stI (hNew h7 (.inl (0, 3, .inl f9)) 3) (hS h7) (nI i) (nI z) = some (hNew h7 (.inl (0, 3, .inl (upd f9 i (nI z)))) 3) := fun {f9 i z} hi => by rw [stI_of' hM_new_eq hi (by omega), new_put]
    have cg : ∀ {f9 : Nat → Int32}, gA (hNew h7 (.inl (0, 3, .inl f9)) 3) (hS h) 9 1 = some (hS h1) ∧ gI (hNew h7 (.inl (0, 3, .inl f9)) 3) (hS h) 9 2 = some (nI (1 + y)) := fun {f9} => by
      have := IM_fc cIM7 (f8 (f9 := f9)) nW_any (fun σ e => by cases e)
      exact ⟨gA_of' this.1 rfl, gI_of' this.1 rfl⟩
    have nn : ∀ {f9 : Nat → Int32}, f_L_number N (hS h1) (hNew h7 (.inl (0, 3, .inl f9)) 3) = some (nI (numN (e 0) x), hNew h7 (.inl (0, 3, .inl f9)) 3) := fun {f9} => L_number (by omega) hin a2 (RowAt_E (RowAt_fc eR7 (f8 (f9 := f9)) nW_any))
    have E8 := Env_nW E7 (f8 (f9 := upd (upd (upd (fun _ => nI 0) 0 (nI k)) 1 (nI (numN (e 0) x))) 2 (nI (1 + y))))
    have q8 := SaleP_fc q7 (f8 (f9 := upd (upd (upd (fun _ => nI 0) 0 (nI k)) 1 (nI (numN (e 0) x))) 2 (nI (1 + y)))) nW_any (fun _ _ h => h)
    have nx9 : numN (e 0) x < 100000 := num_lt hin (by omega)
    obtain ⟨h9, n1, E9, n3⟩ := E_nums (N := N) (i := 2) (ns := [k, numN (e 0) x, 1 + y]) (nu := hS h7) (g := upd (upd (upd (fun _ => nI 0) 0 (nI k)) 1 (nI (numN (e 0) x))) 2 (nI (1 + y))) hNN E8 (by omega) (by show 3 < 100; omega) hM_new_eq (by rw [hS_new]; omega) (by have := E7.1.2.2.2.1.2; omega) (fun j hj => by
      have hj : j < 3 := hj
      rcases (show j = 0 ∨ j = 1 ∨ j = 2 by omega) with rfl | rfl | rfl
      · exact ⟨by rw [upS_ne (by omega), upS_ne (by omega), upS_eq]; rfl, by show k < 100000; omega⟩
      · exact ⟨by rw [upS_ne (by omega), upS_eq]; rfl, nx9⟩
      · exact ⟨by rw [upS_eq]; rfl, by show 1 + y < 100000; omega⟩) (by have : (kS 2).length = 4 := rfl; show L.length + _ + 6 * 3 + 1 ≤ 660; omega)
    rw [ca_eq] at E9
    have q9 := P_wr E8 q8 n3 ho
    have hcl := ca_len (p := k) (x := numN (e 0) x) (y := 1 + y) (by omega) nx9 (by omega)
    have hP9 := Prs_ca hP (by omega) (show k < e 1 by omega) (show e (11 + 19 * k + 1) < 8 by omega) a2 (show 1 ≤ 1 + y by omega) (by omega)
    have hD9 : LD (giveN e k (numN (e 0) x) (1 + y)) := LD_gv hD (by omega) (by omega) ⟨x, a2, rfl⟩ (by omega)
    have hLl : (L ++ caX k (numN (e 0) x) (1 + y)).length ≤ L.length + 17 := by rw [List.length_append]; omega
    obtain ⟨h', L', e', i1, i2, i3, i4, i5, i6, i7, i8⟩ := ih f (ns + 1) h9 (L ++ caX k (numN (e 0) x) (1 + y)) (giveN e k (numN (e 0) x) (1 + y)) (by omega) ⟨E9, q9, hP9, hD9, ho, hP5⟩ (by rw [go 1 (by omega)]; exact he) (by rw [gv.1]; omega) (by omega) (by omega)
    refine ⟨h', L', e', fun k1 => ?_, by rw [show ns + (r + 1) = ns + 1 + r by omega]; exact i2, i3, i4.trans (go 0 (by omega)), i5.trans (go 2 (by omega)), by omega, FC_mono (FC_tr (FC_an f05) (FC_tr (FC_an f57) (FC_tr (FC_an (f8 (f9 := upd (upd (upd (fun _ => nI 0) 0 (nI k)) 1 (nI (numN (e 0) x))) 2 (nI (1 + y))))) (FC_tr (FC_an n3) i7)))) (by omega) (by omega) (fun _ _ h => h), fun p hp => (i8 p hp).trans (gv.2.2.2 _ (by omega) (by omega) (by omega))⟩
    rw [f_L_randomSale_l153]
    have e999 : (999 : Int32) = nI 999 := rfl
    by_cases hu : u = 0
    · rw [if_pos hu] at c3
      simp (disch := omega) only [nlit, nleF, w0, g0, a1, b2, b3, neqT hu, zjn, c2, c3, nadd, i9, (P_rd q5).2.2.1, l1, w1, v1, w3, sN, cg, nn, n1, npred, i1, Option.bind_some, ↓reduceIte]
    · rw [if_neg hu] at c3
      simp (disch := omega) only [nlit, nleF, w0, g0, a1, b2, b3, neqF, zjn, c2, c3, nadd, i9, (P_rd q5).2.2.1, l1, w1, v1, w3, sN, cg, nn, n1, npred, i1, Option.bind_some, ↓reduceIte]
end M88

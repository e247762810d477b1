/-! ===== the law compares ===== -/
abbrev Yr : Type := (Nat × (Nat → Nat → Nat) × (Nat → Nat) × (Nat → Nat → Nat)) × Int32 × Nat × (Nat → Int32)
def clW (b0 : Nat) : Nat → Prop := fun x => b0 ≤ x ∧ x < b0 + 395
/-- the class's object and the law's auction agree -/
def PW (M : Nat → Prop) (b0 a pu wo ha : Nat) (h : zH) (d : Nat → Nat) (K : Nat) (t : Nat → Nat) (y : Yr) : Prop := WC b0 h (d, K, t, y) ∧ SaleAt M h a pu wo ha d K t ∧ (∀ x, clW b0 x → M x) ∧ ∀ x, ownW a pu wo ha x → b0 + 395 ≤ x
section M66
variable {M : Nat → Prop} {h h' : zH} {c m N b0 a pu wo ha K p : Nat} {d t : Nat → Nat} {y : Yr}
theorem PW_g (P : PW M b0 a pu wo ha h d K t y) : GoodD d := P.1.2.1.2.1
theorem PW_o8 {β : Type} {F : Option β} (P : PW M b0 a pu wo ha h d K t y) : onO 8 b0 h F = F := onO_of' P.1.1.1.1
theorem PW_o12 {β : Type} {F : Option β} (P : PW M b0 a pu wo ha h d K t y) : onO 12 a h F = F := o12 P.2.1
theorem PW_nW (P : PW M b0 a pu wo ha h d K t y) (f : FC nW c m h h') : PW M b0 a pu wo ha h' d K t y := ⟨WC_nW P.1 f, SaleAt_nW P.2.1 f, P.2.2⟩
theorem FC_cl (f : FC nW c m h h') : FC (clW b0) c m h h' := FC_mono f (Nat.le_refl _) (Nat.le_refl _) (fun _ _ h => h.elim)
theorem SaleAt_cl (q : SaleAt M h a pu wo ha d K t) (f : FC (clW b0) c m h h') (h1 : ∀ x, clW b0 x → M x) (h2 : ∀ x, ownW a pu wo ha x → b0 + 395 ≤ x) : SaleAt M h' a pu wo ha d K t := SaleAt_fc q f h1 (fun x hx hw => by have := h2 x hx; have := hw.2; omega)
theorem PW_call {α : Type} {F : zH → Option (α × zH)} {r : α} (P : PW M b0 a pu wo ha h d K t y) (hC : CT b0 F h r (d, K, t, y)) : ∃ h', F h = some (r, h') ∧ PW M b0 a pu wo ha h' d K t y ∧ FC (clW b0) 1 6 h h' := by
  obtain ⟨h', h1, h2, h3⟩ := hC
  have f := FC_LK h3
  exact ⟨h', h1, ⟨h2, SaleAt_cl P.2.1 f P.2.2.1 P.2.2.2, P.2.2⟩, f⟩

theorem W_state (hNN : 1400 < N) (P : PW M b0 a pu wo ha h d K t y) {w : Nat} (hw : w < 9) : ∃ h', f_L_state N b0 (nI w) h = some (toldN d w, h') ∧ PW M b0 a pu wo ha h' d K t y ∧ FC (clW b0) 1 6 h h' := by
  obtain ⟨⟨q, hd, hK, ht⟩, ea, z, B⟩ := y
  obtain ⟨h', h1, h2, h3⟩ := PW_call P (C_state hNN P.1 hw)
  refine ⟨h', ?_, h2, h3⟩
  unfold f_L_state
  rw [PW_o8 P, h1, Option.bind_some]
  rfl
theorem W_state9 (hNN : 1400 < N) (P : PW M b0 a pu wo ha h d K t y) : ∃ h', f_L_state N b0 (nI 9) h = some ((-2000000098 : Int32), h') ∧ PW M b0 a pu wo ha h' d K t y ∧ FC (clW b0) 1 6 h h' := by
  obtain ⟨⟨q, hd, hK, ht⟩, ea, z, B⟩ := y
  obtain ⟨h', h1, h2, h3⟩ := PW_call P (C_state9 hNN P.1)
  refine ⟨h', ?_, h2, h3⟩
  unfold f_L_state
  rw [PW_o8 P, h1, Option.bind_some]
  rfl
theorem W_player (hNN : 1400 < N) (P : PW M b0 a pu wo ha h d K t y) {w : Nat} (hp : p < d 1) (hw : w < 3) : ∃ h', f_L_player N b0 (nI p) (nI w) h = some (nI (d (11 + 19 * p + w)), h') ∧ PW M b0 a pu wo ha h' d K t y ∧ FC (clW b0) 1 6 h h' := by
  obtain ⟨⟨q, hd, hK, ht⟩, ea, z, B⟩ := y
  obtain ⟨h', h1, h2, h3⟩ := PW_call P (C_player hNN P.1 hp hw)
  refine ⟨h', ?_, h2, h3⟩
  unfold f_L_player
  rw [PW_o8 P, h1, Option.bind_some]
  rfl
theorem W_playerN (hNN : 1400 < N) (P : PW M b0 a pu wo ha h d K t y) {x y9 : Int32} (hx : ¬ inP x (d 1)) : ∃ h', f_L_player N b0 x y9 h = some ((-2000000097 : Int32), h') ∧ PW M b0 a pu wo ha h' d K t y ∧ FC (clW b0) 1 6 h h' := by
  obtain ⟨⟨q, hd, hK, ht⟩, ea, z, B⟩ := y
  obtain ⟨h', h1, h2, h3⟩ := PW_call P (C_playerN hNN P.1 hx)
  refine ⟨h', ?_, h2, h3⟩
  unfold f_L_player
  rw [PW_o8 P, h1, Option.bind_some]
  rfl
theorem W_card0 (hNN : 1400 < N) (P : PW M b0 a pu wo ha h d K t y) {i : Nat} (hp : p < d 1) (hi : i < d (11 + 19 * p + 1)) : ∃ h', f_L_card N b0 (nI p) (nI i) (nI 0) h = some (nI (d (11 + 19 * p + 3 + 2 * i)), h') ∧ PW M b0 a pu wo ha h' d K t y ∧ FC (clW b0) 1 6 h h' := by
  obtain ⟨⟨q, hd, hK, ht⟩, ea, z, B⟩ := y
  obtain ⟨h', h1, h2, h3⟩ := PW_call P (C_card0 hNN P.1 hp hi)
  refine ⟨h', ?_, h2, h3⟩
  unfold f_L_card
  rw [PW_o8 P, h1, Option.bind_some]
  rfl
theorem W_card1 (hNN : 1400 < N) (P : PW M b0 a pu wo ha h d K t y) {i : Nat} (hp : p < d 1) (hi : i < d (11 + 19 * p + 1)) : ∃ h', f_L_card N b0 (nI p) (nI i) (nI 1) h = some (nI (d (11 + 19 * p + 3 + 2 * i + 1)), h') ∧ PW M b0 a pu wo ha h' d K t y ∧ FC (clW b0) 1 6 h h' := by
  obtain ⟨⟨q, hd, hK, ht⟩, ea, z, B⟩ := y
  obtain ⟨h', h1, h2, h3⟩ := PW_call P (C_card1 hNN P.1 hp hi)
  refine ⟨h', ?_, h2, h3⟩
  unfold f_L_card
  rw [PW_o8 P, h1, Option.bind_some]
  rfl
theorem W_card2 (hNN : 1400 < N) (P : PW M b0 a pu wo ha h d K t y) {i : Nat} (hp : p < d 1) (hi : i < d (11 + 19 * p + 1)) : ∃ h', f_L_card N b0 (nI p) (nI i) (nI 2) h = some (nI (priT d K t p i), h') ∧ PW M b0 a pu wo ha h' d K t y ∧ FC (clW b0) 1 6 h h' := by
  obtain ⟨⟨q, hd, hK, ht⟩, ea, z, B⟩ := y
  obtain ⟨h', h1, h2, h3⟩ := PW_call P (C_card2 hNN P.1 hp hi)
  refine ⟨h', ?_, h2, h3⟩
  unfold f_L_card
  rw [PW_o8 P, h1, Option.bind_some]
  rfl
theorem W_cardN (hNN : 1400 < N) (P : PW M b0 a pu wo ha h d K t y) {x w : Int32} (hp : p < d 1) (hx : ¬ inP x (d (11 + 19 * p + 1))) : ∃ h', f_L_card N b0 (nI p) x w h = some ((-2000000100 : Int32), h') ∧ PW M b0 a pu wo ha h' d K t y ∧ FC (clW b0) 1 6 h h' := by
  obtain ⟨⟨q, hd, hK, ht⟩, ea, z, B⟩ := y
  obtain ⟨h', h1, h2, h3⟩ := PW_call P (C_cardN hNN P.1 hp hx)
  refine ⟨h', ?_, h2, h3⟩
  unfold f_L_card
  rw [PW_o8 P, h1, Option.bind_some]
  rfl
theorem W_cardP (hNN : 1400 < N) (P : PW M b0 a pu wo ha h d K t y) {x y9 w : Int32} (hx : ¬ inP x (d 1)) : ∃ h', f_L_card N b0 x y9 w h = some ((-2000000097 : Int32), h') ∧ PW M b0 a pu wo ha h' d K t y ∧ FC (clW b0) 1 6 h h' := by
  obtain ⟨⟨q, hd, hK, ht⟩, ea, z, B⟩ := y
  obtain ⟨h', h1, h2, h3⟩ := PW_call P (C_cardP hNN P.1 hx)
  refine ⟨h', ?_, h2, h3⟩
  unfold f_L_card
  rw [PW_o8 P, h1, Option.bind_some]
  rfl
theorem W_bid (hNN : 1400 < N) (P : PW M b0 a pu wo ha h d K t y) {b w : Nat} (hb : b < d 5) (hw : w < 3) : ∃ h', f_L_bid N b0 (nI b) (nI w) h = some (nI (d (118 + 3 * b + w)), h') ∧ PW M b0 a pu wo ha h' d K t y ∧ FC (clW b0) 1 6 h h' := by
  obtain ⟨⟨q, hd, hK, ht⟩, ea, z, B⟩ := y
  obtain ⟨h', h1, h2, h3⟩ := PW_call P (C_bid hNN P.1 hb hw)
  refine ⟨h', ?_, h2, h3⟩
  unfold f_L_bid
  rw [PW_o8 P, h1, Option.bind_some]
  rfl
theorem W_bidN (hNN : 1400 < N) (P : PW M b0 a pu wo ha h d K t y) {x y9 : Int32} (hx : ¬ inP x (d 5)) : ∃ h', f_L_bid N b0 x y9 h = some ((-2000000100 : Int32), h') ∧ PW M b0 a pu wo ha h' d K t y ∧ FC (clW b0) 1 6 h h' := by
  obtain ⟨⟨q, hd, hK, ht⟩, ea, z, B⟩ := y
  obtain ⟨h', h1, h2, h3⟩ := PW_call P (C_bidN hNN P.1 hx)
  refine ⟨h', ?_, h2, h3⟩
  unfold f_L_bid
  rw [PW_o8 P, h1, Option.bind_some]
  rfl
theorem not_inP {k : Nat} (hk : k < 1000) : ¬ inP (nI k) k := by
  rintro ⟨v, v1, v2⟩
  have := (nI_eq (by omega) (by omega)).mp v2
  omega
theorem ag_told : ∀ (r i fu : Nat) (h : zH), i + r = 9 → r < fu → 1400 < N → PW M b0 a pu wo ha h d K t y → ∃ h', (∀ k1, f_L_agrees_l40 N b0 a k1 fu (nI 1) (nI i) h = k1 (nI 1) h') ∧ PW M b0 a pu wo ha h' d K t y ∧ FC (clW b0) r (6 * r) h h' := by
  have e1 : (nI 1 = nI 0) = False := eq_false (by decide)
  intro r
  induction r with
  | zero =>
    intro i fu h hi hf hNN P
    obtain ⟨f, rfl⟩ : ∃ f, fu = f + 1 := ⟨fu - 1, by omega⟩
    refine ⟨h, fun k1 => ?_, P, FC_rf⟩
    rw [f_L_agrees_l40]
    simp (disch := omega) only [nlit, nleT, ↓reduceIte]
  | succ r ih =>
    intro i fu h hi hf hNN P
    obtain ⟨f, rfl⟩ : ∃ f, fu = f + 1 := ⟨fu - 1, by omega⟩
    obtain ⟨h1, a1, a2, a3⟩ := W_state hNN P (show i < 9 by omega)
    have t1 := L_told (N := N) a2.2.1 (PW_g a2) (show i < 9 by omega)
    obtain ⟨h', i1, i2, i3⟩ := ih (i + 1) f h1 (by omega) (by omega) hNN a2
    refine ⟨h', fun k1 => ?_, i2, FC_mono (FC_tr a3 i3) (by omega) (by omega) (fun _ _ h => h)⟩
    rw [f_L_agrees_l40]
    simp (disch := omega) only [nlit, nleF, e1, a1, PW_o12 a2, t1, zjn, nadd, i1, Option.bind_some, ↓reduceIte]
theorem ag_cards (hp : p < d 1) : ∀ (r i fu : Nat) (h : zH), i + r = d (11 + 19 * p + 1) → r < fu → 1400 < N → PW M b0 a pu wo ha h d K t y → ∃ h', (∀ k1, f_L_agrees_l163 N b0 a (nI p) k1 fu (nI 1) (nI i) h = k1 (nI 1) h') ∧ PW M b0 a pu wo ha h' d K t y ∧ FC (clW b0) (9 * r) (47 * r) h h' := by
  have e1 : (nI 1 = nI 0) = False := eq_false (by decide)
  intro r
  induction r with
  | zero =>
    intro i fu h hi hf hNN P
    obtain ⟨f, rfl⟩ : ∃ f, fu = f + 1 := ⟨fu - 1, by omega⟩
    obtain ⟨a1, a2, a3, -⟩ := rd_rows P.2.1
    have c8 : d (11 + 19 * p + 1) ≤ 8 := ((PW_g P).2.2.2.1 p hp).1
    obtain ⟨b1, b2, r0, b3, b4, b5⟩ := rd_play P.2.1 hp (PW_g P).1.2.1
    refine ⟨h, fun k1 => ?_, P, FC_rf⟩
    rw [f_L_agrees_l163]
    simp (disch := omega) only [a3, b3, b4, nleT, Option.bind_some, ↓reduceIte]
  | succ r ih =>
    intro i fu h hi hf hNN P
    obtain ⟨f, rfl⟩ : ∃ f, fu = f + 1 := ⟨fu - 1, by omega⟩
    have hD := PW_g P
    have g1 := hD.1.2.1
    have hi9 : i < d (11 + 19 * p + 1) := by omega
    have c8 : d (11 + 19 * p + 1) ≤ 8 := (hD.2.2.2.1 p hp).1
    obtain ⟨-, -, a3, -⟩ := rd_rows P.2.1
    obtain ⟨-, -, r0, b3, b4, -⟩ := rd_play P.2.1 hp g1
    obtain ⟨i1, i2, i3⟩ := good_card hD hp hi9
    obtain ⟨h1, s1, P1, f1⟩ := W_card0 hNN P hp hi9
    obtain ⟨-, -, A3, -⟩ := rd_rows P1.2.1
    obtain ⟨-, -, r1, B3, B4, B5⟩ := rd_play P1.2.1 hp g1
    obtain ⟨k, er, pl, x1, x2, x3, x4, x5, x6, x7, x8, -⟩ := rd_card B5 hi9 (by omega)
    have n1 := L_number (N := N) (by omega) hD.1.1 i1 x7
    rw [← i2] at n1
    obtain ⟨h2, s2, P2, f2⟩ := W_card1 hNN P1 hp hi9
    obtain ⟨-, -, C3, -⟩ := rd_rows P2.2.1
    obtain ⟨-, -, r2, D3, D4, D5⟩ := rd_play P2.2.1 hp g1
    obtain ⟨k2, er2, pl2, y1, y2, y3, y4, y5, y6, y7, y8, -⟩ := rd_card D5 hi9 (by omega)
    obtain ⟨h3, s3, P3, f3⟩ := W_card2 hNN P2 hp hi9
    obtain ⟨-, -, E3, -⟩ := rd_rows P3.2.1
    obtain ⟨-, -, r3, F3, F4, F5⟩ := rd_play P3.2.1 hp g1
    obtain ⟨k3, er3, pl3, z1, z2, z3, z4, z5, z6, z7, z8, -⟩ := rd_card F5 hi9 (by omega)
    obtain ⟨h4, s4, f4⟩ := L_price (N := N) (by omega) hD P3.2.1 z5 z6 i1 z7 z8 (by omega)
    have ep : nI (priN (evJ (tokV (d (11 + 19 * p + 3 + 2 * i + 1)) (ordN (idxN (d 0) (d (11 + 19 * p + 3 + 2 * i)))) (d 5) (d 6)) t (fun _ => 0) K 0)) = nI (priT d K t p i) := rfl
    rw [ep] at s4
    have P4 := PW_nW P3 f4
    obtain ⟨h', j1, j2, j3⟩ := ih (i + 1) f h4 (by omega) (by omega) hNN P4
    refine ⟨h', fun k1 => ?_, j2, FC_mono (FC_tr f1 (FC_tr f2 (FC_tr f3 (FC_tr (FC_cl f4) j3)))) (by omega) (by omega) (fun _ _ h => h)⟩
    rw [f_L_agrees_l163]
    simp (disch := omega) only [nlit, nleF, e1, a3, b3, b4, s1, A3, B3, x1, x3, n1, s2, C3, D3, y1, y4, s3, E3, F3, z1, PW_o12 P3, s4, zjn, nadd, j1, Option.bind_some, ↓reduceIte]
theorem ag_plays : ∀ (r p fu : Nat) (h : zH), p + r = d 1 → r < fu → 1400 < N → PW M b0 a pu wo ha h d K t y → ∃ h', (∀ k1, f_L_agrees_l77 N b0 a k1 fu (nI 1) (nI p) h = k1 (nI 1) h') ∧ PW M b0 a pu wo ha h' d K t y ∧ FC (clW b0) (76 * r) (400 * r) h h' := by
  have e1 : (nI 1 = nI 0) = False := eq_false (by decide)
  intro r
  induction r with
  | zero =>
    intro p fu h hi hf hNN P
    obtain ⟨f, rfl⟩ : ∃ f, fu = f + 1 := ⟨fu - 1, by omega⟩
    have g1 := (PW_g P).1.2.1
    obtain ⟨a1, a2, a3, a4, -⟩ := rd_rows P.2.1
    refine ⟨h, fun k1 => ?_, P, FC_rf⟩
    rw [f_L_agrees_l77]
    simp (disch := omega) only [a1, a4, nleT, Option.bind_some, ↓reduceIte]
  | succ r ih =>
    intro p fu h hi hf hNN P
    obtain ⟨f, rfl⟩ : ∃ f, fu = f + 1 := ⟨fu - 1, by omega⟩
    have hD := PW_g P
    have g1 := hD.1.2.1
    have hp : p < d 1 := by omega
    have c8 : d (11 + 19 * p + 1) ≤ 8 := (hD.2.2.2.1 p hp).1
    obtain ⟨a1, -, -, a4, -⟩ := rd_rows P.2.1
    obtain ⟨h1, s1, P1, f1⟩ := W_player (w := 0) hNN P hp (by omega)
    obtain ⟨A1, A2, A3, A4, -⟩ := rd_rows P1.2.1
    obtain ⟨B1, B2, r1, B3, B4, B5⟩ := rd_play P1.2.1 hp g1
    obtain ⟨h2, s2, P2, f2⟩ := W_player (w := 1) hNN P1 hp (by omega)
    obtain ⟨C1, C2, C3, C4, -⟩ := rd_rows P2.2.1
    obtain ⟨D1, D2, r2, D3, D4, D5⟩ := rd_play P2.2.1 hp g1
    obtain ⟨h3, s3, P3, f3⟩ := W_player (w := 2) hNN P2 hp (by omega)
    obtain ⟨E1, E2, E3, E4, -⟩ := rd_rows P3.2.1
    obtain ⟨F1, F2, r3, F3, F4, F5⟩ := rd_play P3.2.1 hp g1
    obtain ⟨h4, s4, P4, f4⟩ := W_cardN (w := nI 0) hNN P3 hp (not_inP (show d (11 + 19 * p + 1) < 1000 by omega))
    obtain ⟨h5, j1, P5, f5⟩ := ag_cards hp (d (11 + 19 * p + 1)) 0 N h4 (by omega) (by omega) hNN P4
    obtain ⟨h', k1', k2', k3'⟩ := ih (p + 1) f h5 (by omega) (by omega) hNN P5
    refine ⟨h', fun k1 => ?_, k2', FC_mono (FC_tr f1 (FC_tr f2 (FC_tr f3 (FC_tr f4 (FC_tr f5 k3'))))) (by omega) (by omega) (fun _ _ h => h)⟩
    have u0 : d (11 + 19 * p + 0) = d (11 + 19 * p) := rfl
    have em : ((-2000000100 : Int32) = -2000000100) = True := eq_self _
    rw [f_L_agrees_l77]
    rw [u0] at s1
    simp (disch := omega) only [a1, a4, nleF, e1, Option.bind_some, ↓reduceIte, show ((0 : Int32) = nI 0) from rfl, show ((1 : Int32) = nI 1) from rfl, show ((2 : Int32) = nI 2) from rfl, s1, A1, B1, s2, C3, D3, D4, s3, E2, F2, E3, F3, F4, s4, em, zjn, nadd, j1, k1']
theorem ag_bids : ∀ (r i fu : Nat) (h : zH), i + r = d 5 → r < fu → 1400 < N → PW M b0 a pu wo ha h d K t y → ∃ h', (∀ k1, f_L_agrees_l272 N b0 a k1 fu (nI 1) (nI i) h = k1 (nI 1) h') ∧ PW M b0 a pu wo ha h' d K t y ∧ FC (clW b0) (3 * r) (18 * r) h h' := by
  have e1 : (nI 1 = nI 0) = False := eq_false (by decide)
  intro r
  induction r with
  | zero =>
    intro i fu h hi hf hNN P
    obtain ⟨f, rfl⟩ : ∃ f, fu = f + 1 := ⟨fu - 1, by omega⟩
    have g5 : d 5 ≤ 20 := (PW_g P).1.2.2.2.2.2.1
    obtain ⟨bi, a1, a2, a3⟩ := rd_bids P.2.1
    refine ⟨h, fun k1 => ?_, P, FC_rf⟩
    rw [f_L_agrees_l272]
    simp (disch := omega) only [a1, a2, nleT, Option.bind_some, ↓reduceIte]
  | succ r ih =>
    intro i fu h hi hf hNN P
    obtain ⟨f, rfl⟩ : ∃ f, fu = f + 1 := ⟨fu - 1, by omega⟩
    have hD := PW_g P
    have g5 : d 5 ≤ 20 := hD.1.2.2.2.2.2.1
    have hi9 : i < d 5 := by omega
    obtain ⟨bi, a1, a2, a3⟩ := rd_bids P.2.1
    obtain ⟨i1, i2, i3, i4⟩ := good_bid hD hi9
    obtain ⟨h1, s1, P1, f1⟩ := W_bid (w := 0) hNN P hi9 (by omega)
    obtain ⟨b1, A1, A2, A3⟩ := rd_bids P1.2.1
    obtain ⟨k, er, pl, x1, x2, x3, x4, x5, x6, x7, x8, x9, -⟩ := rd_card A3 hi9 (by omega)
    obtain ⟨h2, s2, P2, f2⟩ := W_bid (w := 1) hNN P1 hi9 (by omega)
    obtain ⟨b2', B1, B2, B3⟩ := rd_bids P2.2.1
    obtain ⟨k2, er2, pl2, y1, y2, y3, y4, y5, y6, y7, y8, -⟩ := rd_card B3 hi9 (by omega)
    have n1 := L_number (N := N) (by omega) hD.1.1 i1 y7
    rw [← i2] at n1
    obtain ⟨h3, s3, P3, f3⟩ := W_bid (w := 2) hNN P2 hi9 (by omega)
    obtain ⟨b3, C1, C2, C3⟩ := rd_bids P3.2.1
    obtain ⟨k3, er3, pl3, z1, z2, z3, z4, z5, z6, z7, z8, -⟩ := rd_card C3 hi9 (by omega)
    obtain ⟨h', j1, j2, j3⟩ := ih (i + 1) f h3 (by omega) (by omega) hNN P3
    refine ⟨h', fun k1 => ?_, j2, FC_mono (FC_tr f1 (FC_tr f2 (FC_tr f3 j3))) (by omega) (by omega) (fun _ _ h => h)⟩
    rw [x9] at x2
    rw [show d (118 + 3 * i + 0) = d (118 + 3 * i) from rfl] at s1
    rw [f_L_agrees_l272]
    simp (disch := omega) only [nlit, nleF, e1, a1, a2, s1, A1, x1, x2, s2, B1, y1, y3, n1, s3, C1, z1, z4, zjn, nadd, j1, Option.bind_some, ↓reduceIte]
theorem lgc_self (v : Int64) : lg_cmp v v = 0 := by
  unfold lg_cmp
  rw [if_neg Int64.lt_irrefl, if_pos rfl]
theorem L_agrees (hNN : 1400 < N) (P : PW M b0 a pu wo ha h d K t y) : ∃ h', f_L_agrees N b0 a h = some (.inl (nI 1), h') ∧ PW M b0 a pu wo ha h' d K t y ∧ FC (clW b0) 800 4200 h h' := by
  have hD := PW_g P
  have g1 := hD.1.2.1
  have g5 : d 5 ≤ 20 := hD.1.2.2.2.2.2.1
  have e1 : (nI 1 = nI 0) = False := eq_false (by decide)
  obtain ⟨h1, s1, P1, f1⟩ : ∃ h', f_X8_checksum N b0 h = some (.inl (ckS d K t), h') ∧ PW M b0 a pu wo ha h' d K t y ∧ FC (clW b0) 1 6 h h' := by
    obtain ⟨⟨q, hd, hK, ht⟩, ea, z, B⟩ := y
    exact PW_call P (C_checksum hNN P.1)
  obtain ⟨h2, s2, f2⟩ := L_sum (N := N) (by omega) hD P1.2.1
  have P2 := PW_nW P1 f2
  obtain ⟨h3, s3, P3, f3⟩ : ∃ h', f_X8_product N b0 h2 = some (nI (numN (d 0) (prodF (bidE d) (d 5) 0 0)), h') ∧ PW M b0 a pu wo ha h' d K t y ∧ FC (clW b0) 1 6 h2 h' := by
    obtain ⟨⟨q, hd, hK, ht⟩, ea, z, B⟩ := y
    exact PW_call P2 (C_product hNN P2.1)
  obtain ⟨bi, A1, A2, -⟩ := rd_bids P3.2.1
  obtain ⟨h4, v4, s4, f4, r4, v4h, p4⟩ := L_product (N := N) (by omega) hD P3.2.1
  have P4 := PW_nW P3 f4
  have n4 := L_number (N := N) (by omega) hD.1.1 p4 r4
  obtain ⟨h5, s5, P5, f5⟩ := ag_told 9 0 N h4 (by omega) (by omega) hNN P4
  obtain ⟨h6, s6, P6, f6⟩ := ag_plays (d 1) 0 N h5 (by omega) (by omega) hNN P5
  obtain ⟨h7, s7, P7, f7⟩ := ag_bids (d 5) 0 N h6 (by omega) (by omega) hNN P6
  obtain ⟨B1, B2, B3, B4, -⟩ := rd_rows P7.2.1
  obtain ⟨h8, s8, P8, f8⟩ := W_playerN (y9 := nI 0) hNN P7 (not_inP (show d 1 < 1000 by omega))
  obtain ⟨bi', C1, C2, -⟩ := rd_bids P8.2.1
  obtain ⟨h9, s9, P9, f9⟩ := W_bidN (y9 := nI 0) hNN P8 (not_inP (show d 5 < 1000 by omega))
  obtain ⟨h10, s10, P10, f10⟩ := W_state9 hNN P9
  refine ⟨h10, ?_, P10, FC_mono (FC_tr f1 (FC_tr (FC_cl f2) (FC_tr f3 (FC_tr (FC_cl f4) (FC_tr f5 (FC_tr f6 (FC_tr f7 (FC_tr f8 (FC_tr f9 f10))))))))) (by omega) (by omega) (fun _ _ h => h)⟩
  rw [f_L_agrees, PW_o8 P, s1, Option.bind_some]
  dsimp only [zth]
  rw [PW_o12 P1, s2, Option.bind_some, if_pos (lgc_self _), PW_o8 P2, s3, Option.bind_some]
  simp only [f_L_agrees_j37, show ((0 : Int32) = nI 0) from rfl, show ((1 : Int32) = nI 1) from rfl, show ((9 : Int32) = nI 9) from rfl, A1, A2, PW_o12 P3, s4, n4, s5, s6, s7, e1, B1, B4, s8, C1, C2, s9, s10, Option.bind_some, ↓reduceIte]
end M66

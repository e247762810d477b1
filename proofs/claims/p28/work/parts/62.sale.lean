/-! ===== the law's own auction ===== -/
abbrev rfA (n : Nat) (k : Nat) (g : Nat → Option Nat) : zE := .inl (k, n, .inr (.inr (.inr (.inr g))))
def CardsAt (M : Nat → Prop) (h : zH) (r n cnt : Nat) (E B : Nat → Nat) (Q : Nat → Int32 → Prop) : Prop := ∃ g : Nat → Option Nat, IM M h r (rfA cnt 5 g) ∧ ∀ c, c < cnt → ∃ (k er : Nat) (pl : Int32), g c = some k ∧ IM M h k (.inr (9, [.int pl, .ref er, .int (nI (B c))])) ∧ Q c pl ∧ RowAt M h er n (E c)
/-- the words of a price -/
def varX (v : Nat) : List Nat := if v = 0 then [98, 97, 115, 101] else if v = 1 then [111, 114, 100, 101, 114] else if v = 2 then [98, 105, 100, 115] else [112, 111, 116]
def digX (v : Nat) : List Nat := if v < 10 then [48 + v] else if v < 100 then [48 + v / 10, 48 + v % 10] else if v < 1000 then [48 + v / 100, 48 + v / 10 % 10, 48 + v % 10] else if v < 10000 then [48 + v / 1000, 48 + v / 100 % 10, 48 + v / 10 % 10, 48 + v % 10] else if v < 100000 then [48 + v / 10000, 48 + v / 1000 % 10, 48 + v / 100 % 10, 48 + v / 10 % 10, 48 + v % 10] else []
def opX (o : Nat) : List Nat := if o = 0 then [43] else if o = 1 then [32, 45, 32] else if o = 2 then [42, 32] else [47]
def binX (o : Nat) (A B : Nat → List Nat) (lev : Nat) : List Nat := if (if o < 2 then 1 else 2) < lev then [40] ++ (A (if o < 2 then 1 else 2) ++ opX o ++ B ((if o < 2 then 1 else 2) + 1)) ++ [41] else A (if o < 2 then 1 else 2) ++ opX o ++ B ((if o < 2 then 1 else 2) + 1)
def LeafAt (M : Nat → Prop) (h : zH) (a : Nat) (C : List Nat) (X : Nat → List Nat) : Prop := ∃ (v : Nat) (l r : Value), (IM M h a (.inr (10, [.int (nI 0), .int (nI v), l, r])) ∧ v < 10000 ∧ C = [v] ∧ ∀ lev, X lev = digX v) ∨ (IM M h a (.inr (10, [.int (nI 1), .int (nI v), l, r])) ∧ v < 4 ∧ C = [10000 + v] ∧ ∀ lev, X lev = varX v)
def NodeAt (M : Nat → Prop) (h : zH) : Nat → Nat → List Nat → (Nat → List Nat) → Prop
  | 0, a, C, X => LeafAt M h a C X
  | n + 1, a, C, X => LeafAt M h a C X ∨ ∃ (o l r : Nat) (y : Value) (Cl Cr : List Nat) (Xl Xr : Nat → List Nat), o < 4 ∧ IM M h a (.inr (10, [.int (nI (2 + o)), y, .ref l, .ref r])) ∧ NodeAt M h n l Cl Xl ∧ NodeAt M h n r Cr Xr ∧ C = Cl ++ Cr ++ [10004 + o] ∧ ∀ lev, X lev = binX o Xl Xr lev
def TermAt (M : Nat → Prop) (h : zH) (tv : Value) (K : Nat) (t : Nat → Nat) : Prop := (tv = .null ∧ K = 1 ∧ t 0 = 10000) ∨ ∃ (r : Nat) (C : List Nat) (X : Nat → List Nat), tv = .ref r ∧ NodeAt M h 2 r C X ∧ K = C.length ∧ ∀ k, k < K → t k = C.getD k 0
def SaleC (M : Nat → Prop) (h : zH) (pu wo ha lo bi : Nat) (tv : Value) (d : Nat → Nat) (K : Nat) (t : Nat → Nat) : Prop := ∃ (fp fw fl : Nat → Int32) (gh : Nat → Option Nat), hM h pu = some (.inl (0, d 1, .inl fp)) ∧ hM h wo = some (.inl (0, d 1, .inl fw)) ∧ hM h ha = some (rfA (d 1) 6 gh) ∧ IM M h lo (.inl (0, d 2, .inl fl)) ∧ (∀ p, p < d 1 → fp p = nI (d (11 + 19 * p)) ∧ fw p = nI (d (11 + 19 * p + 2)) ∧ ∃ r, gh p = some r ∧ CardsAt M h r (d 0) (d (11 + 19 * p + 1)) (fun c => idxN (d 0) (d (11 + 19 * p + 3 + 2 * c))) (fun c => d (11 + 19 * p + 3 + 2 * c + 1)) (fun _ _ => True)) ∧ (∀ l, l < d 2 → fl l = nI (d (106 + l))) ∧ CardsAt M h bi (d 0) (d 5) (bidE d) (fun b => d (118 + 3 * b + 2)) (fun b x => x = nI (d (118 + 3 * b))) ∧ TermAt M h tv K t
def OwnP (M : Nat → Prop) (h : zH) (a pu wo ha : Nat) : Prop := (a < hS h ∧ pu < hS h ∧ wo < hS h ∧ ha < hS h) ∧ (M a ∧ M pu ∧ M wo ∧ M ha) ∧ ((a ≠ pu ∧ a ≠ wo ∧ a ≠ ha ∧ pu ≠ wo ∧ pu ≠ ha ∧ wo ≠ ha) ∧ wo = pu + 1 ∧ ha = pu + 2)
/-- what the bids' product wants -/
def BdD (d : Nat → Nat) : Prop := inN (d 0) ∧ d 5 ≤ 20 ∧ ∀ b, b < d 5 → bidE d b < fctN (d 0)
theorem BdD_of {d : Nat → Nat} (hD : GoodD d) : BdD d := ⟨hD.1.1, hD.1.2.2.2.2.2.1, fun b hb => (isN_idx hD.1.1 (hD.2.1 b hb).2.1).1⟩
abbrev saleL (pu wo ha lo bi : Nat) (tv : Value) (d : Nat → Nat) : List Value := [.int (nI (d 0)), .ref pu, .ref wo, .ref ha, .ref lo, .int (nI (d 3)), .int (nI (d 4)), .ref bi, .int (nI (d 6)), .int (nI (d 7)), .int (nI (d 8)), tv]
abbrev saleO (pu wo ha lo bi : Nat) (tv : Value) (d : Nat → Nat) : zE := .inr (12, saleL pu wo ha lo bi tv d)
def SaleAt (M : Nat → Prop) (h : zH) (a pu wo ha : Nat) (d : Nat → Nat) (K : Nat) (t : Nat → Nat) : Prop := ∃ (lo bi : Nat) (tv : Value), hM h a = some (saleO pu wo ha lo bi tv d) ∧ OwnP M h a pu wo ha ∧ SaleC M h pu wo ha lo bi tv d K t
/-- its own cells -/
def ownW (a pu wo ha : Nat) : Nat → Prop := fun x => x = a ∨ x = pu ∨ x = wo ∨ x = ha
section M62
variable {M M' W : Nat → Prop} {h h' : zH} {c m N a pu wo ha lo bi K n : Nat} {tv : Value} {d d' t : Nat → Nat}
theorem CardsAt_fc {r cnt : Nat} {E B : Nat → Nat} {Q : Nat → Int32 → Prop} (q : CardsAt M h r n cnt E B Q) (f : FC W c m h h') (hw : ∀ y, W y → M y) : CardsAt M h' r n cnt E B Q := by
  obtain ⟨g, h1, h2⟩ := q
  refine ⟨g, IM_fc h1 f hw (fun σ e => by cases e), fun c hc => ?_⟩
  obtain ⟨k, er, pl, k1, k2, k3, k4⟩ := h2 c hc
  exact ⟨k, er, pl, k1, IM_fc k2 f hw (fun σ e => by cases e), k3, RowAt_fc k4 f hw⟩
theorem CardsAt_M {r cnt : Nat} {E B : Nat → Nat} {Q : Nat → Int32 → Prop} (q : CardsAt M h r n cnt E B Q) (hm : ∀ y, y < hS h → M' y → M y) : CardsAt M' h r n cnt E B Q := by
  obtain ⟨g, h1, h2⟩ := q
  refine ⟨g, IM_M h1 hm, fun c hc => ?_⟩
  obtain ⟨k, er, pl, k1, k2, k3, f, k4, k5⟩ := h2 c hc
  exact ⟨k, er, pl, k1, IM_M k2 hm, k3, f, IM_M k4 hm, k5⟩
theorem CardsAt_eq {r cnt cnt' n' : Nat} {E B E' B' : Nat → Nat} {Q Q' : Nat → Int32 → Prop} (q : CardsAt M h r n cnt E B Q) (hn : n = n') (hc : cnt = cnt') (hE : ∀ c, c < cnt → E c = E' c) (hB : ∀ c, c < cnt → B c = B' c) (hQ : ∀ c x, c < cnt → Q c x → Q' c x) : CardsAt M h r n' cnt' E' B' Q' := by
  subst hn; subst hc
  obtain ⟨g, h1, h2⟩ := q
  refine ⟨g, h1, fun c hc => ?_⟩
  obtain ⟨k, er, pl, k1, k2, k3, k4⟩ := h2 c hc
  rw [hB c hc] at k2
  rw [hE c hc] at k4
  exact ⟨k, er, pl, k1, k2, hQ c pl hc k3, k4⟩
theorem NodeAt_fc (f : FC W c m h h') (hw : ∀ y, W y → M y) : ∀ (n a : Nat) (C : List Nat) (X : Nat → List Nat), NodeAt M h n a C X → NodeAt M h' n a C X := by
  have lf : ∀ (a : Nat) (C : List Nat) (X : Nat → List Nat), LeafAt M h a C X → LeafAt M h' a C X := by
    intro a C X hl
    obtain ⟨v, l, r, h1 | h1⟩ := hl
    · exact ⟨v, l, r, Or.inl ⟨IM_fc h1.1 f hw (fun σ e => by cases e), h1.2⟩⟩
    · exact ⟨v, l, r, Or.inr ⟨IM_fc h1.1 f hw (fun σ e => by cases e), h1.2⟩⟩
  intro n
  induction n with
  | zero => exact lf
  | succ n ih =>
    intro a C X hh
    rcases hh with hh | ⟨o, l, r, y, Cl, Cr, Xl, Xr, h1, h2, h3, h4, h5⟩
    · exact Or.inl (lf a C X hh)
    · exact Or.inr ⟨o, l, r, y, Cl, Cr, Xl, Xr, h1, IM_fc h2 f hw (fun σ e => by cases e), ih _ _ _ h3, ih _ _ _ h4, h5⟩
theorem NodeAt_M (hm : ∀ y, y < hS h → M' y → M y) : ∀ (n a : Nat) (C : List Nat) (X : Nat → List Nat), NodeAt M h n a C X → NodeAt M' h n a C X := by
  have lf : ∀ (a : Nat) (C : List Nat) (X : Nat → List Nat), LeafAt M h a C X → LeafAt M' h a C X := by
    intro a C X hl
    obtain ⟨v, l, r, h1 | h1⟩ := hl
    · exact ⟨v, l, r, Or.inl ⟨IM_M h1.1 hm, h1.2⟩⟩
    · exact ⟨v, l, r, Or.inr ⟨IM_M h1.1 hm, h1.2⟩⟩
  intro n
  induction n with
  | zero => exact lf
  | succ n ih =>
    intro a C X hh
    rcases hh with hh | ⟨o, l, r, y, Cl, Cr, Xl, Xr, h1, h2, h3, h4, h5⟩
    · exact Or.inl (lf a C X hh)
    · exact Or.inr ⟨o, l, r, y, Cl, Cr, Xl, Xr, h1, IM_M h2 hm, ih _ _ _ h3, ih _ _ _ h4, h5⟩
theorem TermAt_fc (q : TermAt M h tv K t) (f : FC W c m h h') (hw : ∀ y, W y → M y) : TermAt M h' tv K t := by
  rcases q with q | ⟨r, C, X, h1, h2, h3⟩
  · exact Or.inl q
  · exact Or.inr ⟨r, C, X, h1, NodeAt_fc f hw _ _ _ _ h2, h3⟩
theorem TermAt_M (q : TermAt M h tv K t) (hm : ∀ y, y < hS h → M' y → M y) : TermAt M' h tv K t := by
  rcases q with q | ⟨r, C, X, h1, h2, h3⟩
  · exact Or.inl q
  · exact Or.inr ⟨r, C, X, h1, NodeAt_M hm _ _ _ _ h2, h3⟩
theorem cell_fc {x : Nat} {e : zE} (he : hM h x = some e) (hx : x < hS h) (f : FC W c m h h') (hw : ¬ W x) (hn : ∀ σ : Nat → Int64, e ≠ .inl (1, 11, .inr (.inl σ))) : hM h' x = some e := simc_cell (f.2.2 x hx hw) he hn
theorem SaleC_fc (q : SaleC M h pu wo ha lo bi tv d K t) (f : FC W c m h h') (hw : ∀ y, W y → M y) (hx : pu < hS h ∧ wo < hS h ∧ ha < hS h) (ho : ¬ W pu ∧ ¬ W wo ∧ ¬ W ha) : SaleC M h' pu wo ha lo bi tv d K t := by
  obtain ⟨fp, fw, fl, gh, h1, h2, h3, h4, h5, h6, h7, h8⟩ := q
  refine ⟨fp, fw, fl, gh, cell_fc h1 hx.1 f ho.1 (fun σ e => by cases e), cell_fc h2 hx.2.1 f ho.2.1 (fun σ e => by cases e), cell_fc h3 hx.2.2 f ho.2.2 (fun σ e => by cases e), IM_fc h4 f hw (fun σ e => by cases e), fun p hp => ?_, h6, CardsAt_fc h7 f hw, TermAt_fc h8 f hw⟩
  obtain ⟨p1, p2, r, p3, p4⟩ := h5 p hp
  exact ⟨p1, p2, r, p3, CardsAt_fc p4 f hw⟩
theorem SaleC_M (q : SaleC M h pu wo ha lo bi tv d K t) (hm : ∀ y, y < hS h → M' y → M y) : SaleC M' h pu wo ha lo bi tv d K t := by
  obtain ⟨fp, fw, fl, gh, h1, h2, h3, h4, h5, h6, h7, h8⟩ := q
  refine ⟨fp, fw, fl, gh, h1, h2, h3, IM_M h4 hm, fun p hp => ?_, h6, CardsAt_M h7 hm, TermAt_M h8 hm⟩
  obtain ⟨p1, p2, r, p3, p4⟩ := h5 p hp
  exact ⟨p1, p2, r, p3, CardsAt_M p4 hm⟩
theorem OwnP_fc (q : OwnP M h a pu wo ha) (f : FC W c m h h') : OwnP M h' a pu wo ha := by
  have := f.1.1
  obtain ⟨⟨a1, a2, a3, a4⟩, q2⟩ := q
  exact ⟨⟨by omega, by omega, by omega, by omega⟩, q2⟩
/-- another's writing leaves an auction as it is -/
theorem SaleAt_fc (q : SaleAt M h a pu wo ha d K t) (f : FC W c m h h') (hw : ∀ y, W y → M y) (ho : ∀ x, ownW a pu wo ha x → ¬ W x) : SaleAt M h' a pu wo ha d K t := by
  obtain ⟨lo, bi, tv, h1, h2, h3⟩ := q
  exact ⟨lo, bi, tv, cell_fc h1 h2.1.1 f (ho a (Or.inl rfl)) (fun σ e => by cases e), OwnP_fc h2 f, SaleC_fc h3 f hw ⟨h2.1.2.1, h2.1.2.2.1, h2.1.2.2.2⟩ ⟨ho _ (Or.inr (Or.inl rfl)), ho _ (Or.inr (Or.inr (Or.inl rfl))), ho _ (Or.inr (Or.inr (Or.inr rfl)))⟩⟩
theorem SaleAt_M (q : SaleAt M h a pu wo ha d K t) (hm : ∀ y, y < hS h → M' y → M y) (hm2 : ∀ y, M y → M' y) : SaleAt M' h a pu wo ha d K t := by
  obtain ⟨lo, bi, tv, h1, ⟨h2, ⟨b1, b2, b3, b4⟩, h4⟩, h3⟩ := q
  exact ⟨lo, bi, tv, h1, ⟨h2, ⟨hm2 _ b1, hm2 _ b2, hm2 _ b3, hm2 _ b4⟩, h4⟩, SaleC_M h3 hm⟩
/-- answers that write nothing -/
theorem L_over (q : SaleAt M h a pu wo ha d K t) (hD : GoodD d) : f_X12_isOver N a h = some (b2 (overN d), h) := by
  obtain ⟨lo, bi, tv, h1, h2, fp, fw, fl, gh, c1, c2, c3, c4, c5⟩ := q
  obtain ⟨⟨g0, g1, g2, g3, g4, g5, g7⟩, -⟩ := hD
  have e1 : gA h a 12 1 = some pu := gA_of' h1 rfl
  have e2 : aLen h pu = some (nI (d 1)) := aLen_of' c1 (by decide)
  have e3 : gI h a 12 5 = some (nI (d 3)) := gI_of' h1 rfl
  have e4 : gA h a 12 4 = some lo := gA_of' h1 rfl
  have e5 : aLen h lo = some (nI (d 2)) := aLen_of' c4.1 (by decide)
  have eo : overN d = (Nat.beq (d 1) 0 || Nat.ble (d 2) (d 3)) := rfl
  by_cases hz : d 1 = 0
  · have : overN d = true := by rw [eo, hz]; rfl
    rw [this]
    simp (disch := omega) only [f_X12_isOver, e1, e2, nlit, neqT, Option.bind_some, ↓reduceIte]
    rfl
  · by_cases hl : d 3 < d 2
    · have : overN d = false := by
        rw [eo]
        have a1 : Nat.beq (d 1) 0 = false := Bool.eq_false_iff.mpr (fun hq => hz (Nat.eq_of_beq_eq_true hq))
        have a2 : Nat.ble (d 2) (d 3) = false := by rw [← Bool.not_eq_true, Nat.ble_eq]; omega
        rw [a1, a2]; rfl
      rw [this]
      simp (disch := omega) only [f_X12_isOver, e1, e2, e3, e4, e5, nlit, neqF, nltT, Option.bind_some, ↓reduceIte]
      rfl
    · have : overN d = true := by
        rw [eo]
        have a2 : Nat.ble (d 2) (d 3) = true := by rw [Nat.ble_eq]; omega
        rw [a2]; exact Bool.or_true _
      rw [this]
      simp (disch := omega) only [f_X12_isOver, e1, e2, e3, e4, e5, nlit, neqF, nltF, Option.bind_some, ↓reduceIte]
      rfl
theorem o12 {β : Type} {F : Option β} (q : SaleAt M h a pu wo ha d K t) : onO 12 a h F = F := by
  obtain ⟨lo, bi, tv, h1, -⟩ := q
  exact onO_of' h1
theorem L_told {w : Nat} (q : SaleAt M h a pu wo ha d K t) (hD : GoodD d) (hw : w < 9) : f_X12_told N a (nI w) h = some (toldN d w, h) := by
  have ko := L_over (N := N) q hD
  have k12 : ∀ F : Option (Int32 × zH), onO 12 a h F = F := fun F => o12 q
  obtain ⟨lo, bi, tv, h1, h2, fp, fw, fl, gh, c1, c2, c3, c4, c5, c6, c7, c8⟩ := q
  obtain ⟨gb, e0, -⟩ := c7
  have e1 : gA h a 12 1 = some pu := gA_of' h1 rfl
  have e2 : aLen h pu = some (nI (d 1)) := aLen_of' c1 (by decide)
  have e3 : gI h a 12 5 = some (nI (d 3)) := gI_of' h1 rfl
  have e4 : gA h a 12 4 = some lo := gA_of' h1 rfl
  have e5 : aLen h lo = some (nI (d 2)) := aLen_of' c4.1 (by decide)
  have e6 : gI h a 12 0 = some (nI (d 0)) := gI_of' h1 rfl
  have e7 : gI h a 12 6 = some (nI (d 4)) := gI_of' h1 rfl
  have e8 : gA h a 12 7 = some bi := gA_of' h1 rfl
  have e9 : aLen h bi = some (nI (d 5)) := aLen_of' e0.1 (by decide)
  have ea : gI h a 12 8 = some (nI (d 6)) := gI_of' h1 rfl
  have eb : gI h a 12 9 = some (nI (d 7)) := gI_of' h1 rfl
  have ec : gI h a 12 10 = some (nI (d 8)) := gI_of' h1 rfl
  have b1 : (b2 true = nI 0) = False := eq_false (by decide)
  have b0 : (b2 false = nI 0) = True := eq_true rfl
  unfold toldN
  rcases (show w = 0 ∨ w = 1 ∨ w = 2 ∨ w = 3 ∨ w = 4 ∨ w = 5 ∨ w = 6 ∨ w = 7 ∨ w = 8 by omega) with rfl | rfl | rfl | rfl | rfl | rfl | rfl | rfl | rfl
  · rw [if_neg (by omega)]
    simp (disch := omega) only [f_X12_told, nlit, neqT, neqF, e6, Option.bind_some, ↓reduceIte]
  · rw [if_neg (by omega)]
    simp (disch := omega) only [f_X12_told, nlit, neqT, neqF, e1, e2, Option.bind_some, ↓reduceIte]
  · rw [if_neg (by omega)]
    simp (disch := omega) only [f_X12_told, nlit, neqT, neqF, e4, e5, Option.bind_some, ↓reduceIte]
  · rw [if_pos (by omega)]
    cases ho : overN d <;> rw [ho] at ko <;> simp (disch := omega) only [f_X12_told, nlit, neqT, neqF, k12, ko, e3, b0, b1, Option.bind_some, ↓reduceIte, reduceCtorEq]
  · rw [if_pos (by omega)]
    cases ho : overN d <;> rw [ho] at ko <;> simp (disch := omega) only [f_X12_told, nlit, neqT, neqF, k12, ko, e7, b0, b1, Option.bind_some, ↓reduceIte, reduceCtorEq]
  · rw [if_neg (by omega)]
    simp (disch := omega) only [f_X12_told, nlit, neqT, neqF, e8, e9, Option.bind_some, ↓reduceIte]
  · rw [if_neg (by omega)]
    simp (disch := omega) only [f_X12_told, nlit, neqT, neqF, ea, Option.bind_some, ↓reduceIte]
  · rw [if_neg (by omega)]
    simp (disch := omega) only [f_X12_told, nlit, neqT, neqF, eb, Option.bind_some, ↓reduceIte]
  · rw [if_neg (by omega)]
    simp (disch := omega) only [f_X12_told, nlit, neqT, neqF, ec, Option.bind_some, ↓reduceIte]
/-- the product of the bids -/
theorem ldQ_of' {h : zH} {a n k x q : Nat} {g : Nat → Option Nat} (hm : hM h a = some (rfA n q g)) (hq : q = 3 ∨ q = 4 ∨ q = 5 ∨ q = 6 ∨ q = 7) (hk : k < n) (hn : k < 2 ^ 31) (hg : g k = some x) : ldQ h a (nI k) = some x := by
  unfold ldQ
  rw [hm]
  dsimp only
  rw [nI_clamp hn, if_pos ⟨hq, nI_nn hn, hk⟩, hg]
theorem L_prod_l (hNN : 1000 < N) (hD : BdD d) : ∀ (r k fu v acc : Nat) (h : zH), k + r = d 5 → r < fu → SaleAt M h a pu wo ha d K t → RowE h v (d 0) acc → v < hS h → acc < fctN (d 0) → ∃ h' v', f_X12_product_l11 N a (nI (d 5)) fu v (nI k) h = some (v', h') ∧ FC nW r (r * d 0) h h' ∧ RowE h' v' (d 0) (prodF (bidE d) r k acc) ∧ v' < hS h' := by
  obtain ⟨g0, g5, gb⟩ := id hD
  intro r
  induction r with
  | zero =>
    intro k fu v acc h hk hf q hv hv1 ha
    obtain ⟨f, rfl⟩ : ∃ f, fu = f + 1 := ⟨fu - 1, by omega⟩
    refine ⟨h, v, ?_, by rw [Nat.zero_mul]; exact FC_rf, hv, hv1⟩
    rw [f_X12_product_l11]
    simp (disch := omega) only [nleT, ↓reduceIte]
  | succ r ih =>
    intro k fu v acc h hk hf q hv hv1 ha
    obtain ⟨f, rfl⟩ : ∃ f, fu = f + 1 := ⟨fu - 1, by omega⟩
    obtain ⟨lo, bi, tv, h1, h2, fp, fw, fl, gh, c1, c2, c3, c4, c5, c6, ⟨gbi, c7, c7'⟩, c8⟩ := id q
    obtain ⟨kc, er, pl, k1, k2, k3, k4⟩ := c7' k (by omega)
    have e8 : gA h a 12 7 = some bi := gA_of' h1 rfl
    have e9 : ldQ h bi (nI k) = some kc := ldQ_of' c7.1 (by omega) (by omega) (by omega) k1
    have ea : gA h kc 9 1 = some er := gA_of' k2.1 rfl
    have hb : bidE d k < fctN (d 0) := gb k (by omega)
    obtain ⟨f9, k5, k6⟩ := id k4
    obtain ⟨g, t1, t2⟩ := L_times (N := N) hNN g0 ha hb hv (RowAt_E k4) hv1 k5.2.1
    have f1 : FC nW 1 (d 0) h (hNew h (.inl (0, d 0, .inl g)) (d 0)) := FC_new
    obtain ⟨h', v', i1, i2, i3, i4⟩ := ih (k + 1) f (hS h) (mulN acc (bidE d k)) (hNew h (.inl (0, d 0, .inl g)) (d 0)) (by omega) (by omega) (SaleAt_fc q f1 (fun y hy => hy.elim) (fun x _ h => h)) ⟨g, hM_new_eq, t2⟩ (by rw [hS_new]; omega) (mul_in g0 ha hb)
    refine ⟨h', v', ?_, by rw [Nat.add_comm r 1, Nat.add_mul, Nat.one_mul]; exact FC_tr f1 i2, i3, i4⟩
    rw [f_X12_product_l11]
    simp (disch := omega) only [e8, e9, ea, t1, nleF, nlit, nadd, i1, Option.bind_some, ↓reduceIte]
theorem L_productB (hNN : 1000 < N) (hD : BdD d) (q : SaleAt M h a pu wo ha d K t) : ∃ h' v', f_X12_product N a (nI 0) (nI (d 5)) h = some (v', h') ∧ FC nW 21 105 h h' ∧ RowE h' v' (d 0) (prodF (bidE d) (d 5) 0 0) ∧ v' < hS h' ∧ prodF (bidE d) (d 5) 0 0 < fctN (d 0) := by
  obtain ⟨g0, g5, gb⟩ := id hD
  have hin := inN_lt g0
  obtain ⟨lo, bi, tv, h1, -⟩ := id q
  have e6 : gI h a 12 0 = some (nI (d 0)) := gI_of' h1 rfl
  obtain ⟨g, n1, n2⟩ := L_neutral (N := N) (h := h) hNN g0
  have f1 : FC nW 1 (d 0) h (hNew h (.inl (0, d 0, .inl g)) (d 0)) := FC_new
  obtain ⟨h', v', i1, i2, i3, i4⟩ := L_prod_l (N := N) hNN hD (d 5) 0 N (hS h) 0 (hNew h (.inl (0, d 0, .inl g)) (d 0)) (by omega) (by omega) (SaleAt_fc q f1 (fun y hy => hy.elim) (fun x _ h => h)) ⟨g, hM_new_eq, n2⟩ (by rw [hS_new]; omega) (Nat.lt_trans Nat.zero_lt_one (fct_pos g0))
  refine ⟨h', v', ?_, FC_mono (FC_tr f1 i2) (by omega) ?_ (fun _ _ h => h), i3, i4, prodF_in g0 (bidE d) (d 5) 0 0 (Nat.lt_trans Nat.zero_lt_one (fct_pos g0)) (fun j _ hj => gb j (by omega))⟩
  · simp only [f_X12_product, e6, n1, nlit, i1, Option.bind_some]
  · have : d 5 * d 0 ≤ 20 * 5 := Nat.mul_le_mul (by omega) (by omega)
    omega
theorem L_product (hNN : 1000 < N) (hD : GoodD d) (q : SaleAt M h a pu wo ha d K t) : ∃ h' v', f_X12_product N a (nI 0) (nI (d 5)) h = some (v', h') ∧ FC nW 21 105 h h' ∧ RowE h' v' (d 0) (prodF (bidE d) (d 5) 0 0) ∧ v' < hS h' ∧ prodF (bidE d) (d 5) 0 0 < fctN (d 0) := L_productB hNN (BdD_of hD) q
end M62

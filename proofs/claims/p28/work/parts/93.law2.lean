/-! ===== the law's rounds: the state, the tail ===== -/
def AcX (M : Nat → Prop) (b0 rn bf : Nat) (κ : Nat → Nat) (h : zH) (a pu wo ha : Nat) (d : Nat → Nat) (K : Nat) (t : Nat → Nat) (D : Nat) (g : Nat → Option Nat) (q : Nat) (hd : Nat → Nat → Nat) (hK : Nat → Nat) (ht : Nat → Nat → Nat) (A : Nat) (d' : Nat → Nat) (y' : Yr) (Sb Nb : Nat) : Prop := PW M b0 a pu wo ha h d' K t y' ∧ Bg M b0 rn bf κ (ownW a pu wo ha) h D g q hd hK ht ∧ SaleK M b0 rn bf (ownW a pu wo ha) h A d K t ∧ hS h ≤ Sb ∧ hN h ≤ Nb
def LI (M : Nat → Prop) (b0 rn bf : Nat) (κ : Nat → Nat) (h : zH) (a : Nat) (d : Nat → Nat) (K : Nat) (t : Nat → Nat) (D : Nat) (g : Nat → Option Nat) (q : Nat) (hd : Nat → Nat → Nat) (hK : Nat → Nat) (ht : Nat → Nat → Nat) (ea : Int32) (z : Nat) (B : Nat → Int32) (Sb Nb : Nat) : Prop := ∃ pu wo ha, PW M b0 a pu wo ha h d K t ((q, hd, hK, ht), ea, z, B) ∧ Bg M b0 rn bf κ (ownW a pu wo ha) h D g q hd hK ht ∧ q ≤ 8 ∧ hS h ≤ Sb ∧ hN h ≤ Nb
section M93
variable {M M' W ow : Nat → Prop} {h h' h1 h2 : zH} {N n c m a pu wo ha b0 rn bf K D q A i Sb Nb c1 m1 c2 m2 z : Nat} {d d' t : Nat → Nat} {κ : Nat → Nat} {g : Nat → Option Nat} {hd : Nat → Nat → Nat} {hK : Nat → Nat} {ht : Nat → Nat → Nat} {y y' : Yr} {ea : Int32} {B : Nat → Int32} {L : Nat} {xs : Nat → Int32}
theorem AcX_fc (X : AcX M b0 rn bf κ h a pu wo ha d K t D g q hd hK ht A d' y Sb Nb) (f : FC W c m h h') (hw : ∀ y, W y → M y) (ho : ∀ y, W y → clW b0 y ∨ ownW a pu wo ha y) (hp : PW M b0 a pu wo ha h' d' K t y) : AcX M b0 rn bf κ h' a pu wo ha d K t D g q hd hK ht A d' y (Sb + c) (Nb + m) := by
  obtain ⟨x1, x2, x3, x4, x5⟩ := X
  exact ⟨hp, Bg_fc x2 f hw ho, SaleK_fc x3 f hw (fun y hy => by rcases ho y hy with h9 | h9; exact Or.inl h9; exact Or.inr (Or.inr (Or.inr h9))), Nat.le_trans f.1.2 (Nat.add_le_add_right x4 c), Nat.le_trans f.2.1.2 (Nat.add_le_add_right x5 m)⟩
theorem AcX_nW (X : AcX M b0 rn bf κ h a pu wo ha d K t D g q hd hK ht A d' y Sb Nb) (f : FC nW c m h h') : AcX M b0 rn bf κ h' a pu wo ha d K t D g q hd hK ht A d' y (Sb + c) (Nb + m) := AcX_fc X f nW_any (fun y hy => hy.elim) (PW_nW X.1 f)
theorem AcX_le {Sb' Nb' : Nat} (X : AcX M b0 rn bf κ h a pu wo ha d K t D g q hd hK ht A d' y Sb Nb) (h1 : Sb ≤ Sb') (h2 : Nb ≤ Nb') : AcX M b0 rn bf κ h a pu wo ha d K t D g q hd hK ht A d' y Sb' Nb' := ⟨X.1, X.2.1, X.2.2.1, Nat.le_trans X.2.2.2.1 h1, Nat.le_trans X.2.2.2.2 h2⟩
theorem AcX_rn (X : AcX M b0 rn bf κ h a pu wo ha d K t D g q hd hK ht A d' y Sb Nb) (f : FC (fun x => x = rn) c m h h') (hr : RnAt h' rn) : AcX M b0 rn bf κ h' a pu wo ha d K t D g q hd hK ht A d' y (Sb + c) (Nb + m) := by
  obtain ⟨x1, x2, x3, x4, x5⟩ := X
  obtain ⟨-, -, ⟨b3, b4, b5, b6, b7⟩, -⟩ := id x2
  exact ⟨PW_rn x1 f b3 b5 b4 b7, Bg_rn x2 f hr, SaleK_fc x3 f (fun y hy => by rw [hy]; exact b4) (fun y hy => Or.inr (Or.inl hy)), Nat.le_trans f.1.2 (Nat.add_le_add_right x4 c), Nat.le_trans f.2.1.2 (Nat.add_le_add_right x5 m)⟩
theorem AcX_bel {x : Int32} {bd : Nat} (X : AcX M b0 rn bf κ h a pu wo ha d K t D g q hd hK ht A d' y Sb Nb) (hx : x = nI bd) (h0 : 0 < bd) (h1 : bd < 2 ^ 31) : ∃ (v : Nat) (h' : zH), v < bd ∧ (∀ F : Option (Int32 × zH), onO 11 rn h F = F) ∧ f_X11_below N rn x h = some (nI v, h') ∧ AcX M b0 rn bf κ h' a pu wo ha d K t D g q hd hK ht A d' y Sb Nb := by
  subst hx
  obtain ⟨v, sd, b1, b2, b3⟩ := L_below (N := N) X.2.1.2.2.1.1 h0 h1
  obtain ⟨R1, F1⟩ := Rn_put (h := h) (rn := rn) (sd := sd)
  exact ⟨v, _, b1, b2, b3, AcX_rn X F1 R1⟩
/-- the law changes first, then the class -/
theorem ac_lc (X : AcX M b0 rn bf κ h a pu wo ha d K t D g q hd hK ht A d y Sb Nb) (q1 : SaleAt M h1 a pu wo ha d' K t) (f1 : FC (ownW a pu wo ha) c1 m1 h h1) (w2 : WC b0 h2 (d', K, t, y')) (f2 : FC (clW b0) c2 m2 h1 h2) : AcX M b0 rn bf κ h2 a pu wo ha d K t D g q hd hK ht A d' y' (Sb + c1 + c2) (Nb + m1 + m2) := by
  obtain ⟨x1, x2, x3, x4, x5⟩ := X
  have hom := own_M x1.2.1
  have s1 := Nat.le_trans f1.1.2 (Nat.add_le_add_right x4 c1)
  have s2 := Nat.le_trans f1.2.1.2 (Nat.add_le_add_right x5 m1)
  exact ⟨⟨w2, SaleAt_cl q1 f2 x1.2.2.1 x1.2.2.2, x1.2.2⟩, Bg_fc (Bg_fc x2 f1 hom (fun y hy => Or.inr hy)) f2 x1.2.2.1 (fun y hy => Or.inl hy), SaleK_fc (SaleK_fc x3 f1 hom (fun y hy => Or.inr (Or.inr (Or.inr hy)))) f2 x1.2.2.1 (fun y hy => Or.inl hy), Nat.le_trans f2.1.2 (Nat.add_le_add_right s1 c2), Nat.le_trans f2.2.1.2 (Nat.add_le_add_right s2 m2)⟩
/-- the class changes first, then the law -/
theorem ac_cl (X : AcX M b0 rn bf κ h a pu wo ha d K t D g q hd hK ht A d y Sb Nb) (w1 : WC b0 h1 (d', K, t, y')) (f1 : FC (clW b0) c1 m1 h h1) (q2 : SaleAt M h2 a pu wo ha d' K t) (f2 : FC (ownW a pu wo ha) c2 m2 h1 h2) : AcX M b0 rn bf κ h2 a pu wo ha d K t D g q hd hK ht A d' y' (Sb + c1 + c2) (Nb + m1 + m2) := by
  obtain ⟨x1, x2, x3, x4, x5⟩ := X
  have hom := own_M x1.2.1
  have s1 := Nat.le_trans f1.1.2 (Nat.add_le_add_right x4 c1)
  have s2 := Nat.le_trans f1.2.1.2 (Nat.add_le_add_right x5 m1)
  have q1 := SaleAt_cl x1.2.1 f1 x1.2.2.1 x1.2.2.2
  exact ⟨⟨WC_own w1 q1 f2 x1.2.2.2, q2, x1.2.2⟩, Bg_fc (Bg_fc x2 f1 x1.2.2.1 (fun y hy => Or.inl hy)) f2 hom (fun y hy => Or.inr hy), SaleK_fc (SaleK_fc x3 f1 x1.2.2.1 (fun y hy => Or.inl hy)) f2 hom (fun y hy => Or.inr (Or.inr (Or.inr hy))), Nat.le_trans f2.1.2 (Nat.add_le_add_right s1 c2), Nat.le_trans f2.2.1.2 (Nat.add_le_add_right s2 m2)⟩
/-- what the join behind the cases keeps -/
def Q955 (P : Option ((Int32 ⊕ Nat) × zH) → Prop) (M : Nat → Prop) (b0 rn bf : Nat) (κ : Nat → Nat) (a pu wo ha : Nat) (d : Nat → Nat) (K : Nat) (t : Nat → Nat) (D : Nat) (g : Nat → Option Nat) (q : Nat) (hd : Nat → Nat → Nat) (hK : Nat → Nat) (ht : Nat → Nat → Nat) (A : Nat) (ea : Int32) (z : Nat) (B : Nat → Int32) (i Sb Nb : Nat) (j : Int32 → Int32 → Int32 → Nat → Int32 → zH → Option ((Int32 ⊕ Nat) × zH)) : Prop := (∀ h', AcX M b0 rn bf κ h' a pu wo ha d K t D g q hd hK ht A d ((q, hd, hK, ht), ea, z, B) Sb Nb → P (j (nI 1) (nI D) (nI i) A (nI 0) h')) ∧ (∀ h' d', AcX M b0 rn bf κ h' a pu wo ha d K t D g q hd hK ht A d' ((q - forg q + 1, remF hd d q, remF hK K q, remF ht t q), ea, z, B) Sb Nb → P (j (nI 1) (nI D) (nI i) A (nI 1) h'))
theorem law_tail {P : Option ((Int32 ⊕ Nat) × zH) → Prop} {z2 : Int32} {k1 : Int32 → Int32 → zH → Option ((Int32 ⊕ Nat) × zH)} (hNN : 1400 < N) (hq : q ≤ 8) (hD : D < 1000) (hP : ∀ h' d' D' g' q' hd' hK' ht', (D' = D ∨ D' = D + 1) → LI M b0 rn bf κ h' a d' K t D' g' q' hd' hK' ht' ea z B (Sb + 800) (Nb + 4200) → P (f_L_law_l195 N κ L xs z2 b0 rn a bf k1 n (nI 1) (nI D') (nI (i + 1)) h')) : Q955 P M b0 rn bf κ a pu wo ha d K t D g q hd hK ht A ea z B i Sb Nb (fun (v1 : Int32) (v8 : Int32) (v9 : Int32) (v10 : Nat) (v11 : Int32) (h : zH) => zjn (fun (v1 : Int32) (v8 : Int32) (v9 : Int32) (h : zH) => zjn (fun (v8 : Int32) (v9 : Int32) (s0 : Int32) (h : zH) => f_L_law_l195 N κ L xs z2 b0 rn a bf k1 n s0 v8 (v9 + (1 : Int32)) h) (fun (j1014 : Int32 → Int32 → Int32 → zH → Option ((Int32 ⊕ Nat) × zH)) => zjn (fun (v8 : Int32) (v9 : Int32) (h : zH) => j1014 v8 v9 (0 : Int32) h) (fun (j1013 : Int32 → Int32 → zH → Option ((Int32 ⊕ Nat) × zH)) => if v1 = 0 then j1013 v8 v9 h else (f_L_agrees N b0 a h).bind fun y147 => zth y147.1 (fun x148 => if x148 = 0 then j1013 v8 v9 y147.2 else j1014 v8 v9 (1 : Int32) y147.2) (fun k149 => some (.inr k149, y147.2))))) (fun (j996 : Int32 → Int32 → Int32 → zH → Option ((Int32 ⊕ Nat) × zH)) => if v11 = 0 then j996 v1 v8 v9 h else f_L_law_l964 N κ L xs v1 z2 b0 rn a bf v8 v9 v10 (fun (h145 : zH) => (stQ h145 bf (0 : Int32) v10).bind fun h146 => j996 v1 (v8 + (1 : Int32)) v9 h146) N (8 : Int32) h)) := by
  have e10 : ¬ nI 1 = (0 : Int32) := by decide
  -- the comparison
  have fin : ∀ (h' : zH) (d' : Nat → Nat) (D' : Nat) (g' : Nat → Option Nat) (q' : Nat) (hd' : Nat → Nat → Nat) (hK' : Nat → Nat) (ht' : Nat → Nat → Nat), (D' = D ∨ D' = D + 1) → q' ≤ 8 → PW M b0 a pu wo ha h' d' K t ((q', hd', hK', ht'), ea, z, B) → Bg M b0 rn bf κ (ownW a pu wo ha) h' D' g' q' hd' hK' ht' → hS h' ≤ Sb → hN h' ≤ Nb → P ((f_L_agrees N b0 a h').bind fun y147 => zth y147.1 (fun x148 => if x148 = 0 then f_L_law_l195 N κ L xs z2 b0 rn a bf k1 n (0 : Int32) (nI D') (nI i + (1 : Int32)) y147.2 else f_L_law_l195 N κ L xs z2 b0 rn a bf k1 n (1 : Int32) (nI D') (nI i + (1 : Int32)) y147.2) (fun k149 => some (.inr k149, y147.2))) := by
    intro h' d' D' g' q' hd' hK' ht' hDD hqq hp hb s1 s2
    obtain ⟨h2, a1, a2, a3⟩ := L_agrees hNN hp
    refine bindP a1 ?_
    refine zthP ?_
    refine ifPF e10 ?_
    show P (f_L_law_l195 N κ L xs z2 b0 rn a bf k1 n (nI 1) (nI D') (nI i + nI 1) h2)
    rw [nadd]
    exact hP h2 d' D' g' q' hd' hK' ht' hDD ⟨pu, wo, ha, a2, Bg_fc hb a3 hp.2.2.1 (fun y hy => Or.inl hy), hqq, by have := a3.1.2; omega, by have := a3.2.1.2; omega⟩
  refine ⟨fun h' X => ?_, fun h' d' X => ?_⟩
  · obtain ⟨x1, x2, x3, x4, x5⟩ := X
    refine zjnP ?_
    refine ifPT (show nI 0 = (0 : Int32) from rfl) ?_
    refine zjnP ?_
    refine zjnP ?_
    refine ifPF e10 ?_
    exact fin h' d D g q hd hK ht (Or.inl rfl) hq x1 x2 x4 x5
  · obtain ⟨x1, x2, x3, x4, x5⟩ := X
    have x2' := x2
    obtain ⟨b1, b2, b3, ⟨c1, c2, c3, c4, c5, c6⟩, b8, b9⟩ := x2'
    refine zjnP ?_
    refine ifPF e10 ?_
    have hqn : q - forg q + 1 ≤ 8 := by
      unfold forg
      split <;> omega
    refine law_shift 8 N g h' (by omega) (by omega) c1 (fun j hj x hx => ?_) (fun g' g1 g2 => ?_)
    · by_cases hjD : j < D
      · obtain ⟨-, aj, w1, w2⟩ := b8 j hjD hj
        rw [w1] at hx
        cases hx
        exact SaleK_o w2
      · rw [b9 j (by omega) hj] at hx
        cases hx
    · obtain ⟨ab, fs, ao⟩ := SaleK_o x3
      have f1 : FC (fun x => x = bf) 0 0 h' (hPut h' bf (rfA 9 7 g')) := FC_put
      have st : stQ (hPut h' bf (rfA 9 7 g')) bf (0 : Int32) A = some (hPut h' bf (rfA 9 7 (va_up g' 0 (some A)))) := by
        rw [show (0 : Int32) = nI 0 from rfl, stQ7_of hM_put_eq ((hM_put_ne ab).trans ao) (by omega), put_put]
      refine bindP st ?_
      show P (zjn (fun (v8 : Int32) (v9 : Int32) (s0 : Int32) (h : zH) => f_L_law_l195 N κ L xs z2 b0 rn a bf k1 n s0 v8 (v9 + (1 : Int32)) h) (fun (j1014 : Int32 → Int32 → Int32 → zH → Option ((Int32 ⊕ Nat) × zH)) => zjn (fun (v8 : Int32) (v9 : Int32) (h : zH) => j1014 v8 v9 (0 : Int32) h) (fun (j1013 : Int32 → Int32 → zH → Option ((Int32 ⊕ Nat) × zH)) => if nI 1 = 0 then j1013 (nI D + nI 1) (nI i) _ else (f_L_agrees N b0 a (hPut h' bf (rfA 9 7 (va_up g' 0 (some A))))).bind fun y147 => zth y147.1 (fun x148 => if x148 = 0 then j1013 (nI D + nI 1) (nI i) y147.2 else j1014 (nI D + nI 1) (nI i) (1 : Int32) y147.2) (fun k149 => some (.inr k149, y147.2)))))
      rw [nadd]
      refine zjnP ?_
      refine zjnP ?_
      refine ifPF e10 ?_
      have f2 : FC (fun x => x = bf) 0 0 h' (hPut h' bf (rfA 9 7 (va_up g' 0 (some A)))) := FC_put
      exact fin _ d' (D + 1) _ _ _ _ _ (Or.inr rfl) hqn (PW_bf x1 f2 c1 c3 c2 c6) (Bg_push x2 hq x3 g1) (by have := f2.1.2; omega) (by have := f2.2.1.2; omega)
end M93

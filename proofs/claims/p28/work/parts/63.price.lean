/-! ===== the law's prices ===== -/
/-- the codes stand in t from k on -/
def CodAt (t : Nat → Nat) (k : Nat) (C : List Nat) : Prop := ∀ i, i < C.length → t (k + i) = C.getD i 0
theorem getD_l {A B : List Nat} {i : Nat} (hi : i < A.length) : (A ++ B).getD i 0 = A.getD i 0 := by
  rw [List.getD_eq_getElem?_getD, List.getD_eq_getElem?_getD, List.getElem?_append_left hi]
theorem getD_r {A B : List Nat} {i : Nat} : (A ++ B).getD (A.length + i) 0 = B.getD i 0 := by
  rw [List.getD_eq_getElem?_getD, List.getD_eq_getElem?_getD, List.getElem?_append_right (Nat.le_add_right _ _), Nat.add_sub_cancel_left]
theorem opJ0 {a b : Int64} : opJ (10004 + 0) a b = clJ (a + b) := if_pos rfl
theorem opJ1 {a b : Int64} : opJ (10004 + 1) a b = clJ (a - b) := by
  unfold opJ
  rw [if_neg (by omega), if_pos (by omega)]
theorem opJ2 {a b : Int64} : opJ (10004 + 2) a b = clJ (a * b) := by
  unfold opJ
  rw [if_neg (by omega), if_neg (by omega), if_pos (by omega)]
theorem opJ3 {a b : Int64} : opJ (10004 + 3) a b = divJ a b := by
  unfold opJ
  rw [if_neg (by omega), if_neg (by omega), if_neg (by omega)]
theorem CodAt_app {t : Nat → Nat} {k : Nat} {A B : List Nat} (h : CodAt t k (A ++ B)) : CodAt t k A ∧ CodAt t (k + A.length) B := by
  refine ⟨fun i hi => ?_, fun i hi => ?_⟩
  · rw [h i (by rw [List.length_append]; omega), getD_l hi]
  · rw [Nat.add_assoc, h (A.length + i) (by rw [List.length_append]; omega), getD_r]
/-- what the codes C do over a stack of s -/
def RunC (V t : Nat → Nat) (J : Nat → Int64) (k s : Nat) (C : List Nat) (v : Int64) : Prop := hgt t (k + C.length) = s + 1 ∧ evJ V t J (k + C.length) s = v ∧ ∀ j, j < s → evJ V t J (k + C.length) j = evJ V t J k j
theorem RunC_leaf {V t : Nat → Nat} {J : Nat → Int64} {k s c : Nat} (hs : hgt t k = s) (hc : t k = c) (h4 : c < 10004) : RunC V t J k s [c] (nI (V c)).toInt64 := by
  refine ⟨?_, ?_, fun j hj => ?_⟩
  · show hgt t (k + 1) = s + 1
    rw [hgt_va (by omega), hs]
  · show evJ V t J (k + 1) s = _
    rw [evJ, if_neg (by omega), hs, hc, updL_eq]
  · show evJ V t J (k + 1) j = _
    rw [evJ, if_neg (by omega), hs, updL_ne (by omega)]
theorem RunC_bin {V t : Nat → Nat} {J : Nat → Int64} {k s o : Nat} {A B : List Nat} {a b : Int64} (hA : RunC V t J k s A a) (hB : RunC V t J (k + A.length) (s + 1) B b) (hc : t (k + A.length + B.length) = 10004 + o) (ho : o < 4) : RunC V t J k s (A ++ B ++ [10004 + o]) (opJ (10004 + o) a b) := by
  obtain ⟨a1, a2, a3⟩ := hA
  obtain ⟨b1, b2, b3⟩ := hB
  have hl : k + (A ++ B ++ [10004 + o]).length = k + A.length + B.length + 1 := by simp only [List.length_append, List.length_cons, List.length_nil]; omega
  refine ⟨?_, ?_, fun j hj => ?_⟩
  · rw [hl, hgt_op (by omega), b1]; omega
  · rw [hl, evJ, if_pos (by omega), b1, hc, show s + 1 + 1 - 2 = s by omega, show s + 1 + 1 - 1 = s + 1 by omega, updL_eq, b2, b3 s (by omega), a2]
  · rw [hl, evJ, if_pos (by omega), b1, show s + 1 + 1 - 2 = s by omega, updL_ne (by omega), b3 j (by omega), a3 j hj]
theorem L_clamp {N : Nat} {h : zH} {rs : Nat → Nat → zH → Option (Int64 × zH)} (v : Int64) : f_X10_value_j109 N rs v h = some (clJ v, h) := by
  unfold f_X10_value_j109 f_J9_min_f86c9 f_J9_max_f86c9
  simp only [lgc_gt, lgc_lt]
  unfold clJ
  by_cases h1 : v < 1000000
  · rw [if_pos h1, Option.bind_some]
    dsimp only
    rw [if_neg (Int64.not_lt.mpr (Int64.le_of_lt h1))]
    by_cases h2 : -1000000 < v
    · rw [if_pos h2, if_neg (Int64.not_lt.mpr (Int64.le_of_lt h2))]; rfl
    · rw [if_neg h2]
      by_cases h3 : v < -1000000
      · rw [if_pos h3]; rfl
      · have : v = -1000000 := Int64.le_antisymm (Int64.not_lt.mp h2) (Int64.not_lt.mp h3)
        rw [if_neg h3, this]; rfl
  · rw [if_neg h1, Option.bind_some]
    dsimp only
    rw [if_pos (by decide)]
    by_cases h2 : 1000000 < v
    · rw [if_pos h2]; rfl
    · have : v = 1000000 := Int64.le_antisymm (Int64.not_lt.mp h2) (Int64.not_lt.mp h1)
      subst this
      rfl
theorem L_clamp0 {N : Nat} {h : zH} (v : Int64) : f_X12_price_j61 N v h = some (nI (priN v), h) := by
  unfold f_X12_price_j61 f_J9_min_f86c9 f_J9_max_f86c9
  simp only [lgc_gt, lgc_lt]
  by_cases h1 : v < 9999
  · rw [if_pos h1, Option.bind_some]
    dsimp only
    by_cases h2 : 0 < v
    · rw [if_pos h2, Option.bind_some]
      dsimp only
      rw [priN_in (Int64.not_lt.mpr (Int64.le_of_lt h2)) (Int64.not_lt.mpr (Int64.le_of_lt h1))]
    · rw [if_neg h2, Option.bind_some]
      dsimp only
      have : priN v = 0 := by
        unfold priN
        by_cases g3 : v < 0
        · rw [if_pos g3]
        · have : v = 0 := Int64.le_antisymm (Int64.not_lt.mp h2) (Int64.not_lt.mp g3)
          subst this
          rfl
      rw [this]
      rfl
  · rw [if_neg h1, Option.bind_some]
    dsimp only
    rw [if_pos (by decide), Option.bind_some]
    dsimp only
    have : priN v = 9999 := by
      unfold priN
      have h0 : ¬ v < 0 := fun h9 => h1 (Int64.lt_trans h9 (by decide))
      rw [if_neg h0]
      by_cases g3 : 9999 < v
      · rw [if_pos g3]
      · have : v = 9999 := Int64.le_antisymm (Int64.not_lt.mp g3) (Int64.not_lt.mp h1)
        subst this
        rfl
    rw [this]
    rfl
section M63
variable {M : Nat → Prop} {h : zH} {N K : Nat} {t : Nat → Nat}
theorem rg_nI {x : Nat} (hx : x ≤ 1000000) : rgJ (nI x).toInt64 := by
  rw [rgJ_iff, Int32.toInt_toInt64, nI_toInt (by omega)]
  omega
/-- a node's value is what its codes do -/
theorem L_value {p1 : Nat} {τ : Nat → Int64} {V : Nat → Nat} {J : Nat → Int64} (hτ : hM h p1 = some (.inl (1, 4, .inr (.inl τ)))) (hv : ∀ v, v < 4 → τ v = (nI (V (10000 + v))).toInt64 ∧ V (10000 + v) ≤ 1000000) (hV : ∀ v, v < 10000 → V v = v) : ∀ (n a fu : Nat) (C : List Nat) (X : Nat → List Nat) (k s : Nat), NodeAt M h n a C X → n < fu → CodAt t k C → hgt t k = s → ∃ v, f_X10_valueN N fu a p1 h = some (v, h) ∧ rgJ v ∧ RunC V t J k s C v := by
  have lf : ∀ (a fu : Nat) (C : List Nat) (X : Nat → List Nat) (k s : Nat), LeafAt M h a C X → 0 < fu → CodAt t k C → hgt t k = s → ∃ v, f_X10_valueN N fu a p1 h = some (v, h) ∧ rgJ v ∧ RunC V t J k s C v := by
    intro a fu C X k s hl hf hC hs
    obtain ⟨f, rfl⟩ : ∃ f, fu = f + 1 := ⟨fu - 1, by omega⟩
    obtain ⟨v, l, r, ⟨h1, h2, rfl, -⟩ | ⟨h1, h2, rfl, -⟩⟩ := hl
    · have e1 : gI h a 10 0 = some (nI 0) := gI_of' h1.1 rfl
      have e2 : gI h a 10 1 = some (nI v) := gI_of' h1.1 rfl
      have hk : t k = v := hC 0 Nat.one_pos
      refine ⟨(nI v).toInt64, ?_, rg_nI (by omega), ?_⟩
      · rw [f_X10_valueN, f_X10_value]
        simp (disch := omega) only [e1, e2, nlit, nleF, neqT, Option.bind_some, ↓reduceIte]
      · have := RunC_leaf (V := V) (J := J) hs hk (by omega)
        rw [hV v h2] at this
        exact this
    · have e1 : gI h a 10 0 = some (nI 1) := gI_of' h1.1 rfl
      have e2 : gI h a 10 1 = some (nI v) := gI_of' h1.1 rfl
      have hk : t k = 10000 + v := hC 0 Nat.one_pos
      have e3 : ldJ h p1 (nI v) = some (τ v) := ldJ_of' hτ h2 (by omega)
      obtain ⟨v1, v2⟩ := hv v h2
      refine ⟨τ v, ?_, by rw [v1]; exact rg_nI v2, ?_⟩
      · rw [f_X10_valueN, f_X10_value]
        simp (disch := omega) only [e1, e2, e3, nlit, nleF, neqF, Option.bind_some, ↓reduceIte]
      · rw [v1]
        exact RunC_leaf hs hk (by omega)
  intro n
  induction n with
  | zero => intro a fu C X k s hn hf hC hs; exact lf a fu C X k s hn hf hC hs
  | succ n ih =>
    intro a fu C X k s hn hf hC hs
    rcases hn with hn | ⟨o, l, r, y, Cl, Cr, Xl, Xr, h1, h2, h3, h4, rfl, -⟩
    · exact lf a fu C X k s hn (by omega) hC hs
    · obtain ⟨f, rfl⟩ : ∃ f, fu = f + 1 := ⟨fu - 1, by omega⟩
      obtain ⟨hC1, hC2⟩ := CodAt_app hC
      obtain ⟨hCl, hCr⟩ := CodAt_app hC1
      obtain ⟨x, i1, i2, i3⟩ := ih l f Cl Xl k s h3 (by omega) hCl hs
      obtain ⟨z, j1, j2, j3⟩ := ih r f Cr Xr (k + Cl.length) (s + 1) h4 (by omega) hCr i3.1
      have hop : t (k + Cl.length + Cr.length) = 10004 + o := by
        have := hC2 0 Nat.one_pos
        rw [List.length_append] at this
        rw [Nat.add_assoc]
        exact this
      have hR := RunC_bin i3 j3 hop h1
      have e1 : gI h a 10 0 = some (nI (2 + o)) := gI_of' h2.1 rfl
      have e2 : gA h a 10 2 = some l := gA_of' h2.1 rfl
      have e3 : gA h a 10 3 = some r := gA_of' h2.1 rfl
      have o1 : ∀ F : Option (Int64 × zH), onO 10 l h F = F := by
        intro F
        have : ∃ fs, hM h l = some (.inr (10, fs)) := by
          cases n with
          | zero => obtain ⟨v, l2, r2, g | g⟩ := h3 <;> exact ⟨_, g.1.1⟩
          | succ n => rcases h3 with ⟨v, l2, r2, g | g⟩ | ⟨_, _, _, _, _, _, _, _, _, g, -⟩
                      · exact ⟨_, g.1.1⟩
                      · exact ⟨_, g.1.1⟩
                      · exact ⟨_, g.1⟩
        obtain ⟨fs, hfs⟩ := this
        exact onO_of' hfs
      have o2 : ∀ F : Option (Int64 × zH), onO 10 r h F = F := by
        intro F
        have : ∃ fs, hM h r = some (.inr (10, fs)) := by
          cases n with
          | zero => obtain ⟨v, l2, r2, g | g⟩ := h4 <;> exact ⟨_, g.1.1⟩
          | succ n => rcases h4 with ⟨v, l2, r2, g | g⟩ | ⟨_, _, _, _, _, _, _, _, _, g, -⟩
                      · exact ⟨_, g.1.1⟩
                      · exact ⟨_, g.1.1⟩
                      · exact ⟨_, g.1⟩
        obtain ⟨fs, hfs⟩ := this
        exact onO_of' hfs
      refine ⟨opJ (10004 + o) x z, ?_, opJ_ok i2, hR⟩
      rw [f_X10_valueN, f_X10_value]
      rcases (show o = 0 ∨ o = 1 ∨ o = 2 ∨ o = 3 by omega) with rfl | rfl | rfl | rfl
      · simp (disch := omega) only [e1, e2, e3, o1, o2, i1, j1, nlit, nleT, neqT, L_clamp, Option.bind_some, ↓reduceIte, opJ0]
      · simp (disch := omega) only [e1, e2, e3, o1, o2, i1, j1, nlit, nleT, neqT, neqF, L_clamp, Option.bind_some, ↓reduceIte, opJ1]
      · simp (disch := omega) only [e1, e2, e3, o1, o2, i1, j1, nlit, nleT, neqT, neqF, L_clamp, Option.bind_some, ↓reduceIte, opJ2]
      · have ed : opJ (10004 + 3) x z = divJ x z := opJ3
        rw [ed]
        have hz : (lg_cmp z (0 : Int64) = 0) ↔ z = 0 := by
          unfold lg_cmp
          by_cases q1 : z > 0
          · rw [if_pos q1]
            exact ⟨fun q => absurd q (by decide), fun q => by subst q; exact absurd q1 (by decide)⟩
          · rw [if_neg q1]
            by_cases q2 : z = 0
            · rw [if_pos q2]; exact ⟨fun _ => q2, fun _ => rfl⟩
            · rw [if_neg q2]; exact ⟨fun q => absurd q (by decide), fun q => absurd q q2⟩
        by_cases hz0 : z = 0
        · have ez : (lg_cmp z (0 : Int64) = 0) = True := eq_true (hz.mpr hz0)
          have e0 : divJ x z = 0 := by unfold divJ; rw [if_pos hz0]
          simp (disch := omega) only [e1, e2, e3, o1, o2, i1, j1, nleT, neqT, neqF, L_clamp, ez, Option.bind_some, ↓reduceIte, show ((2 : Int32) = nI 2) from rfl, show ((3 : Int32) = nI 3) from rfl, show ((4 : Int32) = nI 4) from rfl]
          rw [e0]
          congr 2
        · have ez : (lg_cmp z (0 : Int64) = 0) = False := eq_false (fun q => hz0 (hz.mp q))
          have e0 : zdivL x z = some (divJ x z) := by unfold zdivL divJ; rw [if_neg hz0, if_neg hz0]
          simp (disch := omega) only [e1, e2, e3, o1, o2, i1, j1, nleT, neqT, neqF, L_clamp, ez, e0, Option.bind_some, ↓reduceIte, show ((2 : Int32) = nI 2) from rfl, show ((3 : Int32) = nI 3) from rfl, show ((4 : Int32) = nI 4) from rfl]
          rw [clJ_id (divJ_ok i2)]
variable {a pu wo ha k er bs e : Nat} {pl : Int32} {d : Nat → Nat}
/-- the price of a card -/
theorem L_price (hNN : 1000 < N) (hD : GoodD d) (q : SaleAt M h a pu wo ha d K t) (hk : hM h k = some (.inr (9, [.int pl, .ref er, .int (nI bs)]))) (hk1 : k < hS h) (he : e < fctN (d 0)) (hR : RowE h er (d 0) e) (her : er < hS h) (hb : bs ≤ 9999) : ∃ h', f_X12_price N a k h = some (nI (priN (evJ (tokV bs (ordN e) (d 5) (d 6)) t (fun _ => 0) K 0)), h') ∧ FC nW 6 29 h h' := by
  obtain ⟨⟨g0, g1, g2, g3, g4, g5, g7⟩, gb, gl, gp, gm⟩ := id hD
  have hm6 : d 6 ≤ 619983 := by unfold monN at gm; omega
  obtain ⟨lo, bi, tv, h1, h2, fp, fw, fl, gh, c1, c2, c3, c4, c5, c6, ⟨gbi, c7, c7'⟩, c8⟩ := id q
  rcases c8 with ⟨rfl, rfl, ht⟩ | ⟨r, C, X, rfl, n1, rfl, n3⟩
  · have e1 : gO h a 12 11 = some none := by simp only [gO, gF, h1]; rfl
    have e2 : gI h k 9 2 = some (nI bs) := gI_of' hk rfl
    refine ⟨h, ?_, FC_mono FC_rf (by omega) (by omega) (fun _ _ h => h)⟩
    have ev : evJ (tokV bs (ordN e) (d 5) (d 6)) t (fun _ => 0) 1 0 = (nI bs).toInt64 := by
      rw [evJ, if_neg (by rw [ht]; omega), ht]
      show vp_updL _ (hgt t 0) _ 0 = _
      rw [show hgt t 0 = 0 from rfl, updL_eq]
      rfl
    rw [ev]
    simp only [f_X12_price, e1, e2, znl, L_clamp0, Option.bind_some]
  · have e1 : gO h a 12 11 = some (some r) := by simp only [gO, gF, h1]; rfl
    have er9 : er ≠ hS h := by omega
    have f1 : FC nW 1 4 h (hNew h (.inl (1, 4, .inr (.inl (fun _ => 0)))) 4) := FC_new
    have w1 : nwJ h (nI 4) = some (hS h, hNew h (.inl (1, 4, .inr (.inl (fun _ => 0)))) 4) := nwJ_of (by omega)
    have kc : ∀ {σ : Nat → Int64}, gI (hNew h (.inl (1, 4, .inr (.inl σ))) 4) k 9 2 = some (nI bs) := fun {σ} => gI_of' ((hM_new_ne (by omega)).trans hk) rfl
    have ke : ∀ {σ : Nat → Int64}, gA (hNew h (.inl (1, 4, .inr (.inl σ))) 4) k 9 1 = some er := fun {σ} => gA_of' ((hM_new_ne (by omega)).trans hk) rfl
    have st : ∀ {σ : Nat → Int64} {i : Nat} {x : Int64}, i < 4 → stJ (hNew h (.inl (1, 4, .inr (.inl σ))) 4) (hS h) (nI i) x = some (hNew h (.inl (1, 4, .inr (.inl (vp_updL σ i x)))) 4) := fun {σ i x} hi => by
      rw [stJ_of' hM_new_eq hi (by omega), new_put]
    obtain ⟨h5, o1, o2⟩ := L_orderOf (N := N) (h := hNew h (.inl (1, 4, .inr (.inl (vp_updL (fun _ => 0) 0 (nI bs).toInt64)))) 4) hNN g0 he (a := er) (by
      obtain ⟨f, r1, r2⟩ := hR
      exact ⟨f, (hM_new_ne (by omega)).trans r1, r2⟩) (by rw [hS_new]; omega)
    have tau : hM h5 (hS h) = some (.inl (1, 4, .inr (.inl (vp_updL (fun _ => 0) 0 (nI bs).toInt64)))) := simc_cell (o2.2.2 (hS h) (by rw [hS_new]; omega) (fun h => h)) hM_new_eq (fun σ e => by cases e)
    have f5 : FC nW (1 + 5) (4 + 25) h h5 := FC_tr FC_new o2
    have s5 := f5.1.1
    have q5 := SaleAt_fc q f5 (fun y hy => hy.elim) (fun x _ h => h)
    obtain ⟨lo', bi', tv', h1', -, -, -, -, -, -, -, -, -, -, -, ⟨gbi', c7b, -⟩, -⟩ := id q5
    have hcell : hM h5 a = some (saleO pu wo ha lo bi (.ref r) d) := cell_fc h1 h2.1.1 f5 (fun h => h) (fun σ e => by cases e)
    have hbi : hM h5 bi = some (rfA (d 5) 5 gbi) := cell_fc c7.1 c7.2.1 f5 (fun h => h) (fun σ e => by cases e)
    -- the last three places
    have st5 : ∀ {σ : Nat → Int64} {i : Nat} {x : Int64}, i < 4 → stJ (hPut h5 (hS h) (.inl (1, 4, .inr (.inl σ)))) (hS h) (nI i) x = some (hPut h5 (hS h) (.inl (1, 4, .inr (.inl (vp_updL σ i x))))) := fun {σ i x} hi => by
      rw [stJ_of' hM_put_eq hi (by omega), put_put]
    have st0 : ∀ {i : Nat} {x : Int64}, i < 4 → stJ h5 (hS h) (nI i) x = some (hPut h5 (hS h) (.inl (1, 4, .inr (.inl (vp_updL (vp_updL (fun _ => 0) 0 (nI bs).toInt64) i x))))) := fun {i x} hi => stJ_of' tau hi (by omega)
    have ha5 : a ≠ hS h := by have := h2.1.1; omega
    have g7' : ∀ {e : zE}, gA (hPut h5 (hS h) e) a 12 7 = some bi := fun {e} => gA_of' ((hM_put_ne ha5).trans hcell) rfl
    have g8' : ∀ {e : zE}, gI (hPut h5 (hS h) e) a 12 8 = some (nI (d 6)) := fun {e} => gI_of' ((hM_put_ne ha5).trans hcell) rfl
    have lb : ∀ {e : zE}, aLen (hPut h5 (hS h) e) bi = some (nI (d 5)) := fun {e} => aLen_of' ((hM_put_ne (by have := c7.2.1; omega)).trans hbi) (by decide)
    -- the node's value at the end
    have fE : ∀ {σ : Nat → Int64}, FC nW (1 + 5) (4 + 25) h (hPut h5 (hS h) (.inl (1, 4, .inr (.inl σ)))) := fun {σ} => ⟨f5.1, f5.2.1, fun x hx hw => simc_tr (f5.2.2 x hx hw) (Or.inl (hM_put_ne (by omega)))⟩
    have hnode := NodeAt_fc (fE (σ := vp_updL (vp_updL (vp_updL (vp_updL (fun _ => 0) 0 (nI bs).toInt64) 1 (nI (ordN e)).toInt64) 2 (nI (d 5)).toInt64) 3 (nI (d 6)).toInt64)) (M := M) (fun y hy => hy.elim) 2 r C X n1
    have o9 : ordN e ≤ 1000000 := by
      have f8 := fct_le g0
      obtain ⟨-, o9, -⟩ := okP_of (show e < 120 by omega)
      omega
    obtain ⟨v, v1, v2, v3, v4, v5⟩ := L_value (N := N) (t := t) (V := tokV bs (ordN e) (d 5) (d 6)) (J := fun _ => 0) (p1 := hS h) hM_put_eq (fun v hv => by
      rcases (show v = 0 ∨ v = 1 ∨ v = 2 ∨ v = 3 by omega) with rfl | rfl | rfl | rfl
      · exact ⟨rfl, by show bs ≤ _; omega⟩
      · exact ⟨rfl, o9⟩
      · exact ⟨rfl, by show d 5 ≤ _; omega⟩
      · exact ⟨rfl, by show d 6 ≤ _; omega⟩) (fun v hv => by unfold tokV; rw [if_pos hv]) 2 r 8 C X 0 0 hnode (by omega) (fun i hi => by rw [Nat.zero_add]; exact n3 i hi) rfl
    rw [Nat.zero_add] at v4
    have on10 : ∀ F : Option (Int64 × zH), onO 10 r (hPut h5 (hS h) (.inl (1, 4, .inr (.inl (vp_updL (vp_updL (vp_updL (vp_updL (fun _ => 0) 0 (nI bs).toInt64) 1 (nI (ordN e)).toInt64) 2 (nI (d 5)).toInt64) 3 (nI (d 6)).toInt64))))) F = F := by
      intro F
      rcases hnode with ⟨v, l2, r2, g | g⟩ | ⟨_, _, _, _, _, _, _, _, _, g, -⟩
      · exact onO_of' g.1.1
      · exact onO_of' g.1.1
      · exact onO_of' g.1
    refine ⟨hPut h5 (hS h) (.inl (1, 4, .inr (.inl (vp_updL (vp_updL (vp_updL (vp_updL (fun _ => 0) 0 (nI bs).toInt64) 1 (nI (ordN e)).toInt64) 2 (nI (d 5)).toInt64) 3 (nI (d 6)).toInt64)))), ?_, fE⟩
    rw [f_X12_price]
    simp (disch := omega) only [e1, w1, kc, ke, st, o1, st0, st5, g7', g8', lb, on10, v1, znl, nlit, L_clamp0, Option.bind_some]
    rw [v4]
end M63

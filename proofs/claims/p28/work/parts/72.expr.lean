/-! ===== the class reads the price that the law writes ===== -/
def LeafX (C : List Nat) (X : Nat → List Nat) : Prop := ∃ v : Nat, (v < 10000 ∧ C = [v] ∧ ∀ lev, X lev = digX v) ∨ (v < 4 ∧ C = [10000 + v] ∧ ∀ lev, X lev = varX v)
def NodeX : Nat → List Nat → (Nat → List Nat) → Prop
  | 0, C, X => LeafX C X
  | n + 1, C, X => LeafX C X ∨ ∃ (o : Nat) (Cl Cr : List Nat) (Xl Xr : Nat → List Nat), o < 4 ∧ NodeX n Cl Xl ∧ NodeX n Cr Xr ∧ C = Cl ++ Cr ++ [10004 + o] ∧ ∀ lev, X lev = binX o Xl Xr lev
theorem NodeX_of {M : Nat → Prop} {h : zH} : ∀ (n a : Nat) (C : List Nat) (X : Nat → List Nat), NodeAt M h n a C X → NodeX n C X := by
  have lf : ∀ (a : Nat) (C : List Nat) (X : Nat → List Nat), LeafAt M h a C X → LeafX C X := by
    rintro a C X ⟨v, l, r, ⟨-, h2, h3, h4⟩ | ⟨-, h2, h3, h4⟩⟩
    · exact ⟨v, Or.inl ⟨h2, h3, h4⟩⟩
    · exact ⟨v, Or.inr ⟨h2, h3, h4⟩⟩
  intro n
  induction n with
  | zero => exact lf
  | succ n ih =>
    intro a C X hh
    rcases hh with hh | ⟨o, l, r, y, Cl, Cr, Xl, Xr, h1, h2, h3, h4, h5⟩
    · exact Or.inl (lf a C X hh)
    · exact Or.inr ⟨o, Cl, Cr, Xl, Xr, h1, ih _ _ _ h3, ih _ _ _ h4, h5⟩
def Fol (b : Nat → Nat) (len q : Nat) : Prop := q < len ∧ isDg (b q) = false ∧ isLt (b q) = false
section M72
variable {h : zH} {b0 rl N : Nat} {V0 V B C : Nat → Int32} {cz : Int32} {T R : Nat → Int32} {X : Nat → Nat → Int32} {P Q : Nat → Int32} {b t : Nat → Nat} {len q K : Nat} {k : zH}
def PKs (b0 : Nat) (h : zH) (rl : Nat) (B T R : Nat → Int32) (X : Nat → Nat → Int32) (P Q : Nat → Int32) (b : Nat → Nat) (len : Nat) (t : Nat → Nat) (V0 : Nat → Int32) (k : zH) (q K : Nat) : Prop := ∃ (V : Nat → Int32) (cz : Int32) (C : Nat → Int32), k = cset h (b0 + 4) (b0 + 1) rl V B cz C T R X P Q ∧ Ac b len V q ∧ V45 V0 V ∧ cz = nI K ∧ ∀ j, j < K → C j = clsC (t j)
theorem PK_7 (hk : PKs b0 h rl B T R X P Q b len t V0 k q K) : O7h (b0 + 4) k := by
  obtain ⟨V, cz, C, rfl, -⟩ := hk
  exact fun _ _ => cs_o7
theorem PK_10 (hk : PKs b0 h rl B T R X P Q b len t V0 k q K) : gA k (b0 + 4) 7 10 = some (b0 + 4 + 2) ∧ ∀ (β : Type) (G : Option β), onO 6 (b0 + 4 + 2) k G = G := by
  obtain ⟨V, cz, C, rfl, -⟩ := hk
  exact ⟨rg_A.2.2.2.1, fun _ _ => r_o6⟩
theorem PK_push {c : Nat} {x : Int32} (hk : PKs b0 h rl B T R X P Q b len t V0 k q K) (hK : K < 700) (hc : t K = c) (hx : x = clsC c) : ∃ k', f_X6_push N (b0 + 4 + 2) x k = some k' ∧ PKs b0 h rl B T R X P Q b len t V0 k' q (K + 1) := by
  obtain ⟨V, cz, C, rfl, hA, hV, hcz, hC⟩ := hk
  refine ⟨_, x_pushC hcz hK, V, _, _, rfl, hA, hV, rfl, fun j hj => ?_⟩
  by_cases hjK : j = K
  · subst hjK
    rw [hc, ← hx]
    exact if_pos rfl
  · exact (if_neg hjK).trans (hC j (by omega))
theorem PK_sign {c : Nat} (hT : TxtB B b len) (hk : PKs b0 h rl B T R X P Q b len t V0 k q K) (hc : isDg c = false ∧ isLt c = false) (hc2 : c < 256) : (sgAt b len q c → f_X7_isSign N (b0 + 4) (nI c) k = some (nI 1, k)) ∧ (¬ sgAt b len q c → f_X7_isSign N (b0 + 4) (nI c) k = some (nI 0, k)) := by
  obtain ⟨V, cz, C, rfl, ⟨hq, sq, tk, v12⟩, hV, hcz, hC⟩ := hk
  have := x_isSign (N := N) (h := aset h (b0 + 4 + 4) (b0 + 1) rl T R X P Q) (q := b0 + 4) (g := b0 + 1) (V := V) (B := B) (cz := cz) (C := C) (p := q) (c := c) hq hc hc2 hT tk
  rw [sq] at this
  exact this
theorem PK_adv {c : Nat} (hNN : 2000 < N) (hT : TxtB B b len) (hk : PKs b0 h rl B T R X P Q b len t V0 k q K) (hs : sgAt b len q c) (hc : isDg c = false ∧ isLt c = false) : ∃ k', f_X7_advance N (b0 + 4) k = some k' ∧ PKs b0 h rl B T R X P Q b len t V0 k' (skp b len (q + 1)) K := by
  obtain ⟨V, cz, C, rfl, ⟨hq, sq, tk, v12⟩, hV, hcz, hC⟩ := hk
  obtain ⟨t3, t5, t4, t6, t7⟩ := tk
  rw [sq, tkE_sg hs hc] at t6
  have wle : q + 1 ≤ len := hs.1
  obtain ⟨V', x1, x2, x3⟩ := x_advance (N := N) (h := aset h (b0 + 4 + 4) (b0 + 1) rl T R X P Q) (q := b0 + 4) (g := b0 + 1) (B := B) (V := V) (cz := cz) (C := C) (p := q + 1) (by omega) hT t3 t6 wle
  exact ⟨_, x1, V', cz, C, rfl, ⟨(skp_le wle).2, skp_skp wle, TokAt_skp wle x2, by rw [x3 12 (by omega) (by omega) (by omega) (by omega)]; exact v12⟩, V45_tr hV (fun k k4 k5 k6 k7 _ => x3 k k4 k5 k6 k7), hcz, hC⟩
theorem PK_take {c : Nat} (hNN : 2000 < N) (hT : TxtB B b len) (hk : PKs b0 h rl B T R X P Q b len t V0 k q K) (hs : sgAt b len q c) (hc : isDg c = false ∧ isLt c = false) (hc2 : c < 256) : ∃ k', f_X7_takeSign N (b0 + 4) (nI c) k = some (nI 1, k') ∧ PKs b0 h rl B T R X P Q b len t V0 k' (skp b len (q + 1)) K := by
  obtain ⟨V, cz, C, rfl, hA, hV, hcz, hC⟩ := hk
  obtain ⟨V', d1, d2, d3, -⟩ := signK (N := N) (h := h) (b0 := b0) (rl := rl) (cz := cz) (C := C) (T := T) (R := R) (X := X) (P := P) (Q := Q) (c := c) hNN hT hA hc hc2 hs
  exact ⟨_, d1, V', cz, C, rfl, d2, V45_tr hV d3, hcz, hC⟩
/-- the first place of an expression -/
theorem var_seg {v : Nat} (hv : v < 4) : varX v = wdN.getD (5 + v) [] := by
  rcases (show v = 0 ∨ v = 1 ∨ v = 2 ∨ v = 3 by omega) with rfl | rfl | rfl | rfl <;> rfl
theorem var_first {v : Nat} (hv : v < 4) : ∃ c cs, varX v = c :: cs ∧ c ≠ 32 := by
  rcases (show v = 0 ∨ v = 1 ∨ v = 2 ∨ v = 3 by omega) with rfl | rfl | rfl | rfl
  · exact ⟨98, _, rfl, by decide⟩
  · exact ⟨111, _, rfl, by decide⟩
  · exact ⟨98, _, rfl, by decide⟩
  · exact ⟨112, _, rfl, by decide⟩
theorem nodeX_first : ∀ (n : Nat) (C : List Nat) (X : Nat → List Nat), NodeX n C X → ∀ lev, ∃ c cs, X lev = c :: cs ∧ c ≠ 32 := by
  have lf : ∀ (C : List Nat) (X : Nat → List Nat), LeafX C X → ∀ lev, ∃ c cs, X lev = c :: cs ∧ c ≠ 32 := by
    rintro C X ⟨v, ⟨h1, -, h3⟩ | ⟨h1, -, h3⟩⟩ lev
    · rw [h3]
      obtain ⟨d1, d2, -⟩ := digX_ok (show v < 100000 by omega)
      cases hd : digX v with
      | nil => exact absurd hd d1
      | cons c cs =>
        rw [hd] at d2
        have := d2 c List.mem_cons_self
        exact ⟨c, cs, rfl, fun he => by subst he; exact absurd this (by decide)⟩
    · rw [h3]; exact var_first h1
  intro n
  induction n with
  | zero => exact lf
  | succ n ih =>
    intro C X hx lev
    rcases hx with hx | ⟨o, Cl, Cr, Xl, Xr, h1, h2, h3, h4, h5⟩
    · exact lf C X hx lev
    · rw [h5]
      unfold binX
      obtain ⟨c, cs, hc, hc2⟩ := ih Cl Xl h2 (if o < 2 then 1 else 2)
      by_cases hp : (if o < 2 then 1 else 2) < lev
      · rw [if_pos hp]; exact ⟨40, _, rfl, by decide⟩
      · rw [if_neg hp, hc]; exact ⟨c, _, rfl, hc2⟩
theorem nodeX_nb {n : Nat} {C : List Nat} {X : Nat → List Nat} {lev : Nat} (hx : NodeX n C X) (hs : SegAt b len q (X lev)) : skp b len q = q := by
  obtain ⟨c, cs, hc, hc2⟩ := nodeX_first n C X hx lev
  rw [hc] at hs
  obtain ⟨⟨h1, h2⟩, -⟩ := SegAt_cons hs
  exact skp_nb h1 (by rw [h2]; exact hc2)
def FacC (N b0 : Nat) (h : zH) (rl : Nat) (B T R : Nat → Int32) (X : Nat → Nat → Int32) (P Q : Nat → Int32) (b : Nat → Nat) (len : Nat) (t : Nat → Nat) (V0 : Nat → Int32) (m n : Nat) (L C : List Nat) : Prop := ∀ (dep q K : Nat) (k : zH), SegAt b len q L → Fol b len (q + L.length) → CodAt t K C → K + C.length < 700 → dep + n ≤ 4 → PKs b0 h rl B T R X P Q b len t V0 k q K → ∃ k', f_X7_takeFactor N (f_X7_takeSumN N m) (b0 + 4) (nI dep) k = some (nI 1, k') ∧ PKs b0 h rl B T R X P Q b len t V0 k' (skp b len (q + L.length)) (K + C.length)
def TerC (N b0 : Nat) (h : zH) (rl : Nat) (B T R : Nat → Int32) (X : Nat → Nat → Int32) (P Q : Nat → Int32) (b : Nat → Nat) (len : Nat) (t : Nat → Nat) (V0 : Nat → Int32) (m n : Nat) (L C : List Nat) : Prop := ∀ (dep q K : Nat) (k : zH), SegAt b len q L → Fol b len (q + L.length) → CodAt t K C → K + C.length < 700 → dep + n ≤ 4 → PKs b0 h rl B T R X P Q b len t V0 k q K → ∃ k' i, i ≤ C.length ∧ f_X7_takeTerm N (f_X7_takeSumN N m) (b0 + 4) (nI dep) k = f_X7_takeTerm_l8 N (f_X7_takeSumN N m) (b0 + 4) (nI dep) (N - i) (nI 1) (nI i) k' ∧ PKs b0 h rl B T R X P Q b len t V0 k' (skp b len (q + L.length)) (K + C.length)
def SumC (N b0 : Nat) (h : zH) (rl : Nat) (B T R : Nat → Int32) (X : Nat → Nat → Int32) (P Q : Nat → Int32) (b : Nat → Nat) (len : Nat) (t : Nat → Nat) (V0 : Nat → Int32) (m n : Nat) (L C : List Nat) : Prop := ∀ (dep q K : Nat) (k : zH), SegAt b len q L → Fol b len (q + L.length) → ¬ sgAt b len (skp b len (q + L.length)) 42 → ¬ sgAt b len (skp b len (q + L.length)) 47 → CodAt t K C → K + C.length < 700 → dep + n ≤ 4 → PKs b0 h rl B T R X P Q b len t V0 k q K → ∃ k' i, i ≤ C.length ∧ f_X7_takeSum N (f_X7_takeSumN N m) (b0 + 4) (nI dep) k = f_X7_takeSum_l8 N (f_X7_takeSumN N m) (b0 + 4) (nI dep) (N - i) (nI 1) (nI i) k' ∧ PKs b0 h rl B T R X P Q b len t V0 k' (skp b len (q + L.length)) (K + C.length)
theorem ter_end {i : Nat} {rc : Nat → Int32 → zH → Option (Int32 × zH)} {d : Int32} (hNN : 2000 < N) (hT : TxtB B b len) (hk : PKs b0 h rl B T R X P Q b len t V0 k q K) (hi : i < 700) (h1 : ¬ sgAt b len q 42) (h2 : ¬ sgAt b len q 47) : f_X7_takeTerm_l8 N rc (b0 + 4) d (N - i) (nI 1) (nI i) k = some (nI 1, k) := by
  obtain ⟨f, hf⟩ : ∃ f, N - i = f + 1 := ⟨N - i - 1, by omega⟩
  rw [hf]
  exact tt_cn (PK_7 hk) hi ((PK_sign hT hk ⟨rfl, rfl⟩ (by omega)).2 h1) ((PK_sign hT hk ⟨rfl, rfl⟩ (by omega)).2 h2)
theorem sum_end {i : Nat} {rc : Nat → Int32 → zH → Option (Int32 × zH)} {d : Int32} (hNN : 2000 < N) (hT : TxtB B b len) (hk : PKs b0 h rl B T R X P Q b len t V0 k q K) (hi : i < 700) (h1 : ¬ sgAt b len q 43) (h2 : ¬ sgAt b len q 45) : f_X7_takeSum_l8 N rc (b0 + 4) d (N - i) (nI 1) (nI i) k = some (nI 1, k) := by
  obtain ⟨f, hf⟩ : ∃ f, N - i = f + 1 := ⟨N - i - 1, by omega⟩
  rw [hf]
  exact ts_cn (PK_7 hk) hi ((PK_sign hT hk ⟨rfl, rfl⟩ (by omega)).2 h1) ((PK_sign hT hk ⟨rfl, rfl⟩ (by omega)).2 h2)
theorem Ter_of_Fac {m n : Nat} {L C : List Nat} (hF : FacC N b0 h rl B T R X P Q b len t V0 m n L C) : TerC N b0 h rl B T R X P Q b len t V0 m n L C := fun dep q K k s1 s2 s3 s4 s5 s6 => by
  obtain ⟨k', f1, f2⟩ := hF dep q K k s1 s2 s3 s4 s5 s6
  refine ⟨k', 0, Nat.zero_le _, ?_, f2⟩
  have o7 := PK_7 s6
  unfold f_X7_takeTerm
  rw [o7, f1, Option.bind_some]
  rfl
theorem Sum_of_Ter {m n : Nat} {L C : List Nat} (hNN : 2000 < N) (hT : TxtB B b len) (hF : TerC N b0 h rl B T R X P Q b len t V0 m n L C) : SumC N b0 h rl B T R X P Q b len t V0 m n L C := fun dep q K k s1 s2 n1 n2 s3 s4 s5 s6 => by
  obtain ⟨k', i, hi, f1, f2⟩ := hF dep q K k s1 s2 s3 s4 s5 s6
  refine ⟨k', 0, Nat.zero_le _, ?_, f2⟩
  have o7 := PK_7 s6
  unfold f_X7_takeSum
  rw [o7, f1, ter_end hNN hT f2 (by omega) n1 n2, Option.bind_some]
  rfl
theorem sg_no {c x : Nat} (hb : b q = x) (hx : x ≠ c) : ¬ sgAt b len q c := fun h9 => hx (hb.symm.trans h9.2)
theorem Fac_leaf {m n : Nat} {C : List Nat} {Y : Nat → List Nat} (lev : Nat) (hNN : 2000 < N) (hT : TxtB B b len) (hl : LeafX C Y) : FacC N b0 h rl B T R X P Q b len t V0 m n (Y lev) C := by
  intro dep q K k s1 s2 s3 s4 s5 s6
  have e10 : gA k (b0 + 4) 7 10 = some (b0 + 4 + 2) := (PK_10 s6).1
  obtain ⟨v, ⟨h1, rfl, h3⟩ | ⟨h1, rfl, h3⟩⟩ := hl
  · rw [h3] at s1 s2 ⊢
    have hn := numDigX (show v < 100000 by omega) s1 (fun _ => s2.2.1)
    obtain ⟨d1, d2, -⟩ := digX_ok (show v < 100000 by omega)
    have ns : ¬ sgAt b len q 40 := by
      obtain ⟨c, cs, hc⟩ : ∃ c cs, digX v = c :: cs := by
        cases hd : digX v with
        | nil => exact absurd hd d1
        | cons c cs => exact ⟨c, cs, rfl⟩
      rw [hc] at s1 d2
      have := d2 c List.mem_cons_self
      exact sg_no (SegAt_cons s1).1.2 (fun he => by subst he; exact absurd this (by decide))
    have ts := (PK_sign (N := N) hT s6 (c := 40) ⟨rfl, rfl⟩ (by omega)).2 ns
    have o7 := PK_7 s6
    obtain ⟨V, cz, C', rfl, hA, hV, hcz, hC⟩ := s6
    have t4 : V 4 = nI 1 := by
      obtain ⟨hq, sq, ⟨t3, t5, t4, t6, t7⟩, v12⟩ := id hA
      rw [t4, sq, hn.1]
    obtain ⟨V1, a1, a2, a3, a8⟩ := numK2 (N := N) (h := h) (b0 := b0) (rl := rl) (cz := cz) (C := C') (T := T) (R := R) (X := X) (P := P) (Q := Q) (lo := 0) (hi1 := 10000) (hi := nI 9999) hNN (by omega) (hi_c (by omega)) hT hA hn (Nat.zero_le _) h1
    have pk : PKs b0 h rl B T R X P Q b len t V0 (cset h (b0 + 4) (b0 + 1) rl V1 B cz C' T R X P Q) (skp b len (q + (digX v).length)) K := ⟨V1, cz, C', rfl, a2, V45_tr hV a3, hcz, hC⟩
    have tK : t K = v := s3 0 Nat.one_pos
    obtain ⟨k', p1, p2⟩ := PK_push (N := N) pk (by have : [v].length = 1 := rfl; omega) tK (show nI v = clsC v by unfold clsC; rw [if_pos h1])
    exact ⟨k', cf_num1 o7 ts cs_gI4 (by rw [t4]; decide) a1 (PK_10 pk).1 (by exact cs_gI8.trans (by rw [a8])) (PK_10 pk).2 p1, p2⟩
  · rw [h3] at s1 s2 ⊢
    have hvs := var_seg h1
    rw [hvs] at s1 s2 ⊢
    have hw : wdAt b len q (5 + v) := wd_seg (by omega) s1 (fun _ => s2.2.2)
    have ns : ¬ sgAt b len q 40 := by
      obtain ⟨c, cs, hc, -⟩ := var_first h1
      intro h9
      have := hw.2.1 0 (wd_ln (by omega)).2.2
      rw [Nat.add_zero, h9.2] at this
      have h8 := (wd_ch (i := 5 + v) (j := 0) (by omega) (wd_ln (by omega)).2.2).2
      rw [← this] at h8
      exact absurd h8 (by decide)
    have ts := (PK_sign (N := N) hT s6 (c := 40) ⟨rfl, rfl⟩ (by omega)).2 ns
    have o7 := PK_7 s6
    have s6' := s6
    obtain ⟨V, cz, C', rfl, hA, hV, hcz, hC⟩ := s6
    have t4 : V 4 = nI 2 := by
      obtain ⟨hq, sq, ⟨t3, t5, t4, t6, t7⟩, v12⟩ := id hA
      rw [t4, sq, ((wdAt_iff (by omega) hq).mp hw).1]
    rcases var_c (N := N) (h := aset h (b0 + 4 + 4) (b0 + 1) rl T R X P Q) (r0 := b0 + 4) (g := b0 + 1) (V := V) (B := B) (cz := cz) (C := C') (by omega) hA.1 hA.2.1 hT hA.2.2.1 with ⟨-, n4⟩ | ⟨w, c, c1, c2, c3, c4, c5⟩
    · exact absurd hw (n4 v h1)
    · have hwv : w = v := by
        rcases (show v = 0 ∨ v = 1 ∨ v = 2 ∨ v = 3 by omega) with rfl | rfl | rfl | rfl <;> rcases (show w = 0 ∨ w = 1 ∨ w = 2 ∨ w = 3 by omega) with rfl | rfl | rfl | rfl <;> first | rfl | exact absurd c3 (notW (by omega) (by omega) (by decide) hw (by decide))
      subst hwv
      have tK : t K = 10000 + w := s3 0 Nat.one_pos
      obtain ⟨k', p1, p2⟩ := PK_push (N := N) s6' (by have : [10000 + w].length = 1 := rfl; omega) tK (show c = clsC (10000 + w) by rw [c1, clsC_v])
      obtain ⟨V', cz', C2, rfl, hA', hV', hcz', hC2⟩ := p2
      obtain ⟨V1, a1, a2, a3⟩ := wordK (N := N) (h := h) (b0 := b0) (rl := rl) (cz := cz') (C := C2) (T := T) (R := R) (X := X) (P := P) (Q := Q) hNN hT hA' (by omega) hw
      refine ⟨_, cf_word o7 ts (cs_gI4.trans (by rw [t4])) (Or.inr rfl) (c5.trans (cv_y (by rw [c1]; exact of_eq_false (wn_ne w c2)) e10 (fun _ _ => r_o6) p1 (fun _ _ => cs_o7) a1)), V1, cz', C2, rfl, a2, V45_tr hV' a3, hcz', hC2⟩
end M72

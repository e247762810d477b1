/-! ===== the law's own cells: frames, rows of points ===== -/
/-- from h to h': at most c cells, m slots more; what W doesn't name stays -/
def FC (W : Nat → Prop) (c m : Nat) (h h' : zH) : Prop := (hS h ≤ hS h' ∧ hS h' ≤ hS h + c) ∧ (hN h ≤ hN h' ∧ hN h' ≤ hN h + m) ∧ ∀ x, x < hS h → ¬ W x → simc h h' x
def nW : Nat → Prop := fun _ => False
theorem FC_rf {W : Nat → Prop} {h : zH} : FC W 0 0 h h := ⟨⟨Nat.le_refl _, Nat.le_refl _⟩, ⟨Nat.le_refl _, Nat.le_refl _⟩, fun _ _ _ => simc_rf⟩
theorem FC_tr {W : Nat → Prop} {c m c' m' : Nat} {h h1 h2 : zH} (a : FC W c m h h1) (b : FC W c' m' h1 h2) : FC W (c + c') (m + m') h h2 := by
  obtain ⟨⟨a1, a2⟩, ⟨a3, a4⟩, a5⟩ := a
  obtain ⟨⟨b1, b2⟩, ⟨b3, b4⟩, b5⟩ := b
  exact ⟨⟨by omega, by omega⟩, ⟨by omega, by omega⟩, fun x hx hw => simc_tr (a5 x hx hw) (b5 x (by omega) hw)⟩
theorem FC_mono {W W' : Nat → Prop} {c m c' m' : Nat} {h h1 : zH} (a : FC W c m h h1) (hc : c ≤ c') (hm : m ≤ m') (hw : ∀ x, x < hS h → W x → W' x) : FC W' c' m' h h1 := by
  obtain ⟨⟨a1, a2⟩, ⟨a3, a4⟩, a5⟩ := a
  exact ⟨⟨a1, by omega⟩, ⟨a3, by omega⟩, fun x hx h9 => a5 x hx (fun h8 => h9 (hw x hx h8))⟩
theorem FC_le {W : Nat → Prop} {c m : Nat} {h h1 : zH} (a : FC W c m h h1) : hS h ≤ hS h1 := a.1.1
theorem FC_new {h : zH} {e : zE} {n : Nat} : FC nW 1 n h (hNew h e n) := ⟨⟨Nat.le_succ _, Nat.le_refl _⟩, ⟨Nat.le_add_right _ _, Nat.le_refl _⟩, fun x hx _ => Or.inl (by
  show (if x = h.1 then some e else h.2.2 x) = h.2.2 x
  rw [if_neg (by unfold hS at hx; omega)])⟩
theorem FC_put {h : zH} {a : Nat} {e : zE} : FC (fun x => x = a) 0 0 h (hPut h a e) := ⟨⟨Nat.le_refl _, Nat.le_refl _⟩, ⟨Nat.le_refl _, Nat.le_refl _⟩, fun x _ hw => Or.inl (by rw [hM_put, if_neg hw])⟩
theorem FC_thr {h : zH} {k : Nat} : FC nW 1 6 h (zthr k h) := ⟨⟨Nat.le_succ _, Nat.le_refl _⟩, ⟨Nat.le_add_right _ _, Nat.le_refl _⟩, fun x hx _ => Or.inl rfl⟩
/-- a class's call -/
theorem FC_LK {b0 : Nat} {h h' : zH} (hk : LK b0 h h') : FC (fun x => b0 ≤ x ∧ x < b0 + 395) 1 6 h h' := ⟨⟨hk.2.1, hk.2.2.1⟩, ⟨hk.2.2.2.1, hk.2.2.2.2⟩, fun x _ hw => hk.1 x (by omega)⟩
theorem hM_new_eq {h : zH} {e : zE} {n : Nat} : hM (hNew h e n) (hS h) = some e := if_pos rfl
theorem hM_new_ne {h : zH} {e : zE} {n x : Nat} (hx : x ≠ hS h) : hM (hNew h e n) x = hM h x := if_neg hx
theorem hM_put_eq {h : zH} {e : zE} {a : Nat} : hM (hPut h a e) a = some e := if_pos rfl
theorem hM_put_ne {h : zH} {e : zE} {a x : Nat} (hx : x ≠ a) : hM (hPut h a e) x = hM h x := if_neg hx
theorem new_put {h : zH} {e e' : zE} {n : Nat} : hPut (hNew h e n) (hS h) e' = hNew h e' n := zH_ext rfl rfl fun q => by
  show (if q = h.1 then some e' else if q = h.1 then some e else h.2.2 q) = (if q = h.1 then some e' else h.2.2 q)
  split <;> rfl
/-- a cell that is never written again -/
def IM (M : Nat → Prop) (h : zH) (x : Nat) (e : zE) : Prop := hM h x = some e ∧ x < hS h ∧ ¬ M x
theorem IM_fc {M W : Nat → Prop} {c m : Nat} {h h' : zH} {x : Nat} {e : zE} (a : IM M h x e) (f : FC W c m h h') (hw : ∀ y, W y → M y) (hn : ∀ σ : Nat → Int64, e ≠ .inl (1, 11, .inr (.inl σ))) : IM M h' x e := ⟨simc_cell (f.2.2 x a.2.1 (fun h9 => a.2.2 (hw x h9))) a.1 hn, Nat.lt_of_lt_of_le a.2.1 f.1.1, a.2.2⟩
theorem IM_M {M M' : Nat → Prop} {h : zH} {x : Nat} {e : zE} (a : IM M h x e) (hm : ∀ y, y < hS h → M' y → M y) : IM M' h x e := ⟨a.1, a.2.1, fun h9 => a.2.2 (hm x a.2.1 h9)⟩
/-- the row of an element -/
def RowE (h : zH) (a n e : Nat) : Prop := ∃ f : Nat → Int32, hM h a = some (.inl (0, n, .inl f)) ∧ ∀ i, i < n → f i = nI (goalN e i)
def RowAt (M : Nat → Prop) (h : zH) (a n e : Nat) : Prop := ∃ f : Nat → Int32, IM M h a (.inl (0, n, .inl f)) ∧ ∀ i, i < n → f i = nI (goalN e i)
theorem RowAt_E {M : Nat → Prop} {h : zH} {a n e : Nat} (r : RowAt M h a n e) : RowE h a n e := by obtain ⟨f, h1, h2⟩ := r; exact ⟨f, h1.1, h2⟩
theorem RowAt_fc {M W : Nat → Prop} {c m : Nat} {h h' : zH} {a n e : Nat} (r : RowAt M h a n e) (f : FC W c m h h') (hw : ∀ y, W y → M y) : RowAt M h' a n e := by obtain ⟨g, h1, h2⟩ := r; exact ⟨g, IM_fc h1 f hw (fun σ e => by cases e), h2⟩
theorem RowE_fc {W : Nat → Prop} {c m : Nat} {h h' : zH} {a n e : Nat} (r : RowE h a n e) (f : FC W c m h h') (ha : a < hS h) (hw : ¬ W a) : RowE h' a n e := by obtain ⟨g, h1, h2⟩ := r; exact ⟨g, simc_cell (f.2.2 a ha hw) h1 (fun σ e => by cases e), h2⟩
theorem nwI_of {h : zH} {n : Nat} (hn : n ≤ 100000) : nwI h (nI n) = some (hS h, hNew h (.inl (0, n, .inl (fun _ => nI 0))) n) := by
  unfold nwI
  rw [nI_clamp (by omega), if_pos ⟨nI_nn (by omega), hn⟩]
  rfl
theorem nwJ_of {h : zH} {n : Nat} (hn : n ≤ 100000) : nwJ h (nI n) = some (hS h, hNew h (.inl (1, n, .inr (.inl (fun _ => 0)))) n) := by
  unfold nwJ
  rw [nI_clamp (by omega), if_pos ⟨nI_nn (by omega), hn⟩]
theorem gid0 : ∀ i, i < 5 → goalN 0 i = i := by decide +kernel
def fixB (n : Nat) : Bool := (List.range (fctN n)).all fun e => (List.range 5).all fun i => if Nat.blt i n then Nat.blt (goalN e i) n else Nat.beq (goalN e i) i
theorem fixB_ok : fixB 2 = true ∧ fixB 3 = true ∧ fixB 4 = true ∧ fixB 5 = true := by decide +kernel
theorem goal_fix {n e i : Nat} (hn : inN n) (he : e < fctN n) (hi : i < 5) : (i < n → goalN e i < n) ∧ (n ≤ i → goalN e i = i) := by
  have hb : fixB n = true := by
    obtain ⟨h2, h3, h4, h5⟩ := fixB_ok
    rcases hn with rfl | rfl | rfl | rfl <;> assumption
  have h1 := List.all_eq_true.mp (List.all_eq_true.mp hb e (List.mem_range.mpr he)) i (List.mem_range.mpr hi)
  constructor
  · intro h9
    rw [if_pos (by rw [Nat.blt_eq]; exact h9)] at h1
    rwa [Nat.blt_eq] at h1
  · intro h9
    rw [if_neg (by rw [Nat.blt_eq]; omega)] at h1
    exact Nat.eq_of_beq_eq_true h1
theorem inN_lt {n : Nat} (h : inN n) : 2 ≤ n ∧ n < 6 := by rcases h with rfl | rfl | rfl | rfl <;> omega
theorem goal_n {n e i : Nat} (hn : inN n) (he : e < fctN n) (hi : i < n) : goalN e i < n := by
  have := inN_lt hn
  exact (goal_fix hn he (by omega)).1 hi
/-- an element is known by its points -/
def injB (n : Nat) : Bool := (List.range (fctN n)).all fun e => Nat.beq e 0 || !((List.range n).all fun i => Nat.beq (goalN e i) i)
theorem injB_ok : injB 2 = true ∧ injB 3 = true ∧ injB 4 = true ∧ injB 5 = true := by decide +kernel
theorem goal_inj0 {n e : Nat} (hn : inN n) (he : e < fctN n) (hg : ∀ i, i < n → goalN e i = i) : e = 0 := by
  have hb : injB n = true := by
    obtain ⟨h2, h3, h4, h5⟩ := injB_ok
    rcases hn with rfl | rfl | rfl | rfl <;> assumption
  have h1 := List.all_eq_true.mp hb e (List.mem_range.mpr he)
  have h2 : ((List.range n).all fun i => Nat.beq (goalN e i) i) = true := List.all_eq_true.mpr fun i hi => by
    rw [hg i (List.mem_range.mp hi)]
    exact Nat.beq_refl i
  rw [h2] at h1
  exact Nat.eq_of_beq_eq_true (by simpa using h1)
section M61
variable {N n : Nat} {h : zH}
theorem L_neutral_l {a : Nat} (hn : n < 1000) : ∀ (r k fu : Nat) (g : Nat → Int32) (h : zH), k + r = n → r < fu → hM h a = some (.inl (0, n, .inl g)) → (∀ i, i < k → g i = nI i) → ∃ g', f_L_neutral_l6 N (nI n) a fu (nI k) h = some (a, hPut h a (.inl (0, n, .inl g'))) ∧ ∀ i, i < n → g' i = nI i := by
  intro r
  induction r with
  | zero =>
    intro k fu g h hk hf hm hg
    obtain ⟨f, rfl⟩ : ∃ f, fu = f + 1 := ⟨fu - 1, by omega⟩
    have : k = n := by omega
    subst this
    refine ⟨g, ?_, hg⟩
    rw [f_L_neutral_l6]
    simp (disch := omega) only [nleT, ↓reduceIte]
    congr 2
    exact zH_ext rfl rfl fun q => by
      show h.2.2 q = (if q = a then _ else h.2.2 q)
      by_cases hq : q = a
      · rw [if_pos hq, hq]; exact hm
      · rw [if_neg hq]
  | succ r ih =>
    intro k fu g h hk hf hm hg
    obtain ⟨f, rfl⟩ : ∃ f, fu = f + 1 := ⟨fu - 1, by omega⟩
    have e1 : stI h a (nI k) (nI k) = some (hPut h a (.inl (0, n, .inl (upd g k (nI k))))) := stI_of' hm (by omega) (by omega)
    obtain ⟨g', i1, i2⟩ := ih (k + 1) f (upd g k (nI k)) (hPut h a (.inl (0, n, .inl (upd g k (nI k))))) (by omega) (by omega) hM_put_eq (fun i hi => by
      by_cases hik : i = k
      · subst hik; exact if_pos rfl
      · exact (if_neg hik).trans (hg i (by omega)))
    refine ⟨g', ?_, i2⟩
    rw [f_L_neutral_l6]
    simp (disch := omega) only [nleF, nlit, nadd, e1, i1, put_put, Option.bind_some, ↓reduceIte]
theorem L_neutral (hN : 1000 < N) (hn : inN n) : ∃ g : Nat → Int32, f_L_neutral N (nI n) h = some (hS h, hNew h (.inl (0, n, .inl g)) n) ∧ ∀ i, i < n → g i = nI (goalN 0 i) := by
  have h9 := inN_lt hn
  obtain ⟨g, h1, h2⟩ := L_neutral_l (N := N) (n := n) (a := hS h) (by omega) n 0 N (fun _ => nI 0) (hNew h (.inl (0, n, .inl (fun _ => nI 0))) n) (by omega) (by omega) hM_new_eq (fun i hi => absurd hi (by omega))
  refine ⟨g, ?_, fun i hi => by rw [h2 i hi, gid0 i (by omega)]⟩
  have e1 : nwI h (nI n) = _ := nwI_of (by omega)
  simp only [f_L_neutral, e1, nlit, h1, new_put, Option.bind_some]
theorem L_times_l {a b c e1 e2 : Nat} (hn : inN n) (h1 : e1 < fctN n) (h2 : e2 < fctN n) (hca : c ≠ a) (hcb : c ≠ b) : ∀ (r k fu : Nat) (g : Nat → Int32) (h : zH), k + r = n → r < fu → RowE h a n e1 → RowE h b n e2 → hM h c = some (.inl (0, n, .inl g)) → (∀ i, i < k → g i = nI (goalN e2 (goalN e1 i))) → ∃ g', f_L_times_l7 N a b c fu (nI k) h = some (c, hPut h c (.inl (0, n, .inl g'))) ∧ ∀ i, i < n → g' i = nI (goalN e2 (goalN e1 i)) := by
  have h9 := inN_lt hn
  intro r
  induction r with
  | zero =>
    intro k fu g h hk hf hA hB hm hg
    obtain ⟨f, rfl⟩ : ∃ f, fu = f + 1 := ⟨fu - 1, by omega⟩
    have : k = n := by omega
    subst this
    obtain ⟨fa, a1, a2⟩ := hA
    have l1 : aLen h a = some (nI k) := aLen_of' a1 (by decide)
    refine ⟨g, ?_, hg⟩
    rw [f_L_times_l7]
    simp (disch := omega) only [l1, nleT, Option.bind_some, ↓reduceIte]
    congr 2
    exact zH_ext rfl rfl fun q => by
      show h.2.2 q = (if q = c then _ else h.2.2 q)
      by_cases hq : q = c
      · rw [if_pos hq, hq]; exact hm
      · rw [if_neg hq]
  | succ r ih =>
    intro k fu g h hk hf hA hB hm hg
    obtain ⟨f, rfl⟩ : ∃ f, fu = f + 1 := ⟨fu - 1, by omega⟩
    obtain ⟨fa, a1, a2⟩ := id hA
    obtain ⟨fb, b1, b2⟩ := id hB
    have l1 : aLen h a = some (nI n) := aLen_of' a1 (by decide)
    have g1 := goal_n hn h1 (show k < n by omega)
    have g2 := goal_n hn h2 g1
    have l2 : ldI h a (nI k) = some (nI (goalN e1 k)) := by rw [ldI_of' a1 (by omega) (by omega), a2 k (by omega)]
    have l3 : ldI h b (nI (goalN e1 k)) = some (nI (goalN e2 (goalN e1 k))) := by rw [ldI_of' b1 g1 (by omega), b2 _ g1]
    have s1 : stI h c (nI k) (nI (goalN e2 (goalN e1 k))) = some (hPut h c (.inl (0, n, .inl (upd g k (nI (goalN e2 (goalN e1 k))))))) := stI_of' hm (by omega) (by omega)
    obtain ⟨g', i1, i2⟩ := ih (k + 1) f (upd g k (nI (goalN e2 (goalN e1 k)))) (hPut h c (.inl (0, n, .inl (upd g k (nI (goalN e2 (goalN e1 k))))))) (by omega) (by omega) ⟨fa, (hM_put_ne (Ne.symm hca)).trans a1, a2⟩ ⟨fb, (hM_put_ne (Ne.symm hcb)).trans b1, b2⟩ hM_put_eq (fun i hi => by
      by_cases hik : i = k
      · subst hik; exact if_pos rfl
      · exact (if_neg hik).trans (hg i (by omega)))
    refine ⟨g', ?_, i2⟩
    rw [f_L_times_l7]
    simp (disch := omega) only [l1, l2, l3, s1, nleF, nlit, nadd, i1, put_put, Option.bind_some, ↓reduceIte]
theorem goal_mul {e1 e2 i : Nat} (h1 : e1 < 120) (h2 : e2 < 120) (hi : i < 5) : goalN (mulN e1 e2) i = goalN e2 (goalN e1 i) := by
  obtain ⟨-, m0, m1, m2, m3, m4⟩ := okM_of h1 h2
  rcases (show i = 0 ∨ i = 1 ∨ i = 2 ∨ i = 3 ∨ i = 4 by omega) with rfl | rfl | rfl | rfl | rfl <;> assumption
theorem L_times {a b e1 e2 : Nat} (hN : 1000 < N) (hn : inN n) (h1 : e1 < fctN n) (h2 : e2 < fctN n) (hA : RowE h a n e1) (hB : RowE h b n e2) (ha : a < hS h) (hb : b < hS h) : ∃ g : Nat → Int32, f_L_times N a b h = some (hS h, hNew h (.inl (0, n, .inl g)) n) ∧ ∀ i, i < n → g i = nI (goalN (mulN e1 e2) i) := by
  have h9 := inN_lt hn
  have f8 := fct_le hn
  obtain ⟨fa, a1, a2⟩ := id hA
  obtain ⟨fb, b1, b2⟩ := id hB
  obtain ⟨g, i1, i2⟩ := L_times_l (N := N) (n := n) (a := a) (b := b) (c := hS h) hn h1 h2 (by omega) (by omega) n 0 N (fun _ => nI 0) (hNew h (.inl (0, n, .inl (fun _ => nI 0))) n) (by omega) (by omega) ⟨fa, (hM_new_ne (by omega)).trans a1, a2⟩ ⟨fb, (hM_new_ne (by omega)).trans b1, b2⟩ hM_new_eq (fun i hi => absurd hi (by omega))
  refine ⟨g, ?_, fun i hi => by rw [i2 i hi, goal_mul (by omega) (by omega) (by omega)]⟩
  have l1 : aLen h a = some (nI n) := aLen_of' a1 (by decide)
  have e1 : nwI h (nI n) = _ := nwI_of (by omega)
  simp only [f_L_times, l1, e1, nlit, i1, new_put, Option.bind_some]
theorem L_neut_l {a e : Nat} (hn : inN n) (he : e < fctN n) (hA : RowE h a n e) : ∀ (r k fu : Nat) (b : Bool), k + r = n → r < fu → (b = true ↔ ∀ i, i < k → goalN e i = i) → f_L_isNeutral_l4 N a fu (b2 b) (nI k) h = some (b2 (decide (e = 0)), h) := by
  have h9 := inN_lt hn
  obtain ⟨fa, a1, a2⟩ := id hA
  have l1 : aLen h a = some (nI n) := aLen_of' a1 (by decide)
  intro r
  induction r with
  | zero =>
    intro k fu b hk hf hb
    obtain ⟨f, rfl⟩ : ∃ f, fu = f + 1 := ⟨fu - 1, by omega⟩
    have : k = n := by omega
    subst this
    have hbe : b = decide (e = 0) := by
      by_cases h0 : e = 0
      · subst h0
        rw [decide_eq_true rfl]
        exact hb.mpr (fun i hi => gid0 i (by omega))
      · rw [decide_eq_false h0]
        cases b with
        | false => rfl
        | true => exact absurd (goal_inj0 hn he (hb.mp rfl)) h0
    have z1 : zB (b2 b) = some (b2 b) := by cases b <;> rfl
    rw [f_L_isNeutral_l4]
    simp (disch := omega) only [l1, z1, nleT, Option.bind_some, ↓reduceIte]
    rw [hbe]
  | succ r ih =>
    intro k fu b hk hf hb
    obtain ⟨f, rfl⟩ : ∃ f, fu = f + 1 := ⟨fu - 1, by omega⟩
    have g1 := goal_n hn he (show k < n by omega)
    have l2 : ldI h a (nI k) = some (nI (goalN e k)) := by rw [ldI_of' a1 (by omega) (by omega), a2 k (by omega)]
    have an1 : ∀ b : Bool, b2 b &&& nI 1 = b2 b := by decide
    have an0 : ∀ b : Bool, b2 b &&& nI 0 = b2 false := by decide
    rw [f_L_isNeutral_l4]
    by_cases hg : goalN e k = k
    · have i1 := ih (k + 1) f b (by omega) (by omega) ⟨fun h8 i hi => by
        by_cases hik : i = k
        · subst hik; exact hg
        · exact hb.mp h8 i (by omega), fun h8 => hb.mpr (fun i hi => h8 i (by omega))⟩
      simp (disch := omega) only [l1, l2, zjn, neqT, nleF, nlit, nadd, an1, i1, Option.bind_some, ↓reduceIte]
    · have i1 := ih (k + 1) f false (by omega) (by omega) (Iff.intro (fun h8 => Bool.noConfusion h8) (fun h8 => absurd (h8 k (by omega)) hg))
      simp (disch := omega) only [l1, l2, zjn, neqF, nleF, nlit, nadd, an0, i1, Option.bind_some, ↓reduceIte]
theorem L_isNeutral {a e : Nat} (hN : 1000 < N) (hn : inN n) (he : e < fctN n) (hA : RowE h a n e) : f_L_isNeutral N a h = some (b2 (decide (e = 0)), h) := by
  have h9 := inN_lt hn
  have := L_neut_l (N := N) hn he hA n 0 N true (by omega) (by omega) ⟨fun _ i hi => absurd hi (by omega), fun _ => rfl⟩
  rw [f_L_isNeutral]
  exact this
def numK (e : Nat) : Nat → Nat
  | 0 => 0
  | k + 1 => 10 * numK e k + goalN e k + 1
theorem L_number_l {a e : Nat} (hn : inN n) (he : e < fctN n) (hA : RowE h a n e) : ∀ (r k fu : Nat), k + r = n → r < fu → f_L_number_l10 N a (nI n) fu (nI (numK e k)) (nI k) h = some (nI (numK e n), h) := by
  have h9 := inN_lt hn
  obtain ⟨fa, a1, a2⟩ := id hA
  intro r
  induction r with
  | zero =>
    intro k fu hk hf
    obtain ⟨f, rfl⟩ : ∃ f, fu = f + 1 := ⟨fu - 1, by omega⟩
    have : k = n := by omega
    subst this
    rw [f_L_number_l10]
    simp (disch := omega) only [nleT, ↓reduceIte]
  | succ r ih =>
    intro k fu hk hf
    obtain ⟨f, rfl⟩ : ∃ f, fu = f + 1 := ⟨fu - 1, by omega⟩
    have l2 : ldI h a (nI k) = some (nI (goalN e k)) := by rw [ldI_of' a1 (by omega) (by omega), a2 k (by omega)]
    have i1 := ih (k + 1) f (by omega) (by omega)
    rw [f_L_number_l10]
    simp (disch := omega) only [l2, nleF, nlit, nadd, nmul, Option.bind_some, ↓reduceIte]
    exact i1
theorem L_number {a e : Nat} (hN : 1000 < N) (hn : inN n) (he : e < fctN n) (hA : RowE h a n e) : f_L_number N a h = some (nI (numN n e), h) := by
  have h9 := inN_lt hn
  obtain ⟨fa, a1, a2⟩ := id hA
  have l1 : aLen h a = some (nI n) := aLen_of' a1 (by decide)
  have := L_number_l (N := N) hn he hA n 0 N (by omega) (by omega)
  have e9 : numK e n = numN n e := by
    rcases hn with rfl | rfl | rfl | rfl <;> simp [numK, numN] <;> omega
  rw [e9] at this
  simp only [f_L_number, l1, nlit, Option.bind_some]
  exact this
/-- the powers of an element -/
def idB : Bool := (List.range 120).all fun e => Nat.beq (mulN 0 e) e
theorem idB_ok : idB = true := by decide +kernel
theorem pow_one {e : Nat} (hn : inN n) (he : e < fctN n) : powN e 1 = e := by
  have f8 := fct_le hn
  exact Nat.eq_of_beq_eq_true (List.all_eq_true.mp idB_ok e (List.mem_range.mpr (by omega)))
theorem L_order_l {a e : Nat} (hN : 1000 < N) (hn : inN n) (he : e < fctN n) : ∀ (r k fu v : Nat) (h : zH), k + r = ordN e → 0 < k → r < fu → RowE h a n e → a < hS h → RowE h v n (powN e k) → v < hS h → ∃ h', f_L_orderOf_l4 N a fu (nI k) v h = some (nI (ordN e), h') ∧ FC nW r (r * n) h h' := by
  have h9 := inN_lt hn
  have f8 := fct_le hn
  obtain ⟨o1, o2, o3, o4, -⟩ := okP_of (show e < 120 by omega)
  have e0 : (nI 0 = nI 0) = True := eq_true rfl
  intro r
  induction r with
  | zero =>
    intro k fu v h hk h0 hf hA ha hV hv
    obtain ⟨f, rfl⟩ : ∃ f, fu = f + 1 := ⟨fu - 1, by omega⟩
    have hke : k = ordN e := by omega
    rw [hke, o3] at hV
    have n1 := L_isNeutral (N := N) hN hn (Nat.lt_trans Nat.zero_lt_one (fct_pos hn)) hV
    refine ⟨h, ?_, by rw [Nat.zero_mul]; exact FC_rf⟩
    rw [f_L_orderOf_l4]
    have e1 : (b2 (decide (0 = 0)) = nI 0) = False := eq_false (by decide)
    rw [n1, Option.bind_some]
    dsimp only
    rw [if_neg (by decide), hke]
  | succ r ih =>
    intro k fu v h hk h0 hf hA ha hV hv
    obtain ⟨f, rfl⟩ : ∃ f, fu = f + 1 := ⟨fu - 1, by omega⟩
    have hp : powN e k < fctN n := pow_in hn he k
    have hne := o4 k h0 (by omega)
    have n1 := L_isNeutral (N := N) hN hn hp hV
    obtain ⟨g, t1, t2⟩ := L_times (N := N) hN hn hp he hV hA hv ha
    have f1 : FC nW 1 n h (hNew h (.inl (0, n, .inl g)) n) := FC_new
    obtain ⟨h', i1, i2⟩ := ih (k + 1) f (hS h) (hNew h (.inl (0, n, .inl g)) n) (by omega) (by omega) (by omega) (RowE_fc hA f1 ha (fun h => h)) (by rw [hS_new]; omega) ⟨g, hM_new_eq, t2⟩ (by rw [hS_new]; omega)
    refine ⟨h', ?_, by rw [Nat.add_comm r 1, Nat.add_mul, Nat.one_mul]; exact FC_tr f1 i2⟩
    rw [f_L_orderOf_l4]
    have e1 : (b2 (decide (powN e k = 0)) = nI 0) = True := by rw [decide_eq_false hne]; exact eq_true rfl
    simp only [n1, t1, nlit, e1, nadd, i1, Option.bind_some, ↓reduceIte]
theorem L_orderOf {a e : Nat} (hN : 1000 < N) (hn : inN n) (he : e < fctN n) (hA : RowE h a n e) (ha : a < hS h) : ∃ h', f_L_orderOf N a h = some (nI (ordN e), h') ∧ FC nW 5 25 h h' := by
  have h9 := inN_lt hn
  have f8 := fct_le hn
  obtain ⟨o1, o2, o3, o4, -⟩ := okP_of (show e < 120 by omega)
  have p1 : powN e 1 = e := pow_one hn he
  obtain ⟨h', i1, i2⟩ := L_order_l (N := N) hN hn he (ordN e - 1) 1 N a h (by omega) (by omega) (by omega) hA ha (by rw [p1]; exact hA) ha
  refine ⟨h', ?_, FC_mono i2 (by omega) ?_ (fun _ _ h => h)⟩
  · simp only [f_L_orderOf, nlit]
    exact i1
  · have : (ordN e - 1) * n ≤ 5 * 5 := Nat.mul_le_mul (by omega) (by omega)
    omega
end M61

/-! ===== chance makes an expression ===== -/
/-- the number of nodes -/
def ndC : Nat → Nat
  | 0 => 1
  | n + 1 => 1 + 2 * ndC n
section M805
variable {M W : Nat → Prop} {h h' : zH} {N n rn a : Nat}
abbrev ndO (k v : Nat) (l r : Value) : zE := .inr (10, [.int (nI k), .int (nI v), l, r])
theorem bel {bd : Nat} {e : zE} (hR : RnAt h rn) (hm : hM h a = some e) (har : a ≠ rn) (h0 : 0 < bd) (h1 : bd < 2 ^ 31) : ∃ (v : Nat) (h' : zH), v < bd ∧ (∀ F : Option (Int32 × zH), onO 11 rn h F = F) ∧ f_X11_below N rn (nI bd) h = some (nI v, h') ∧ RnAt h' rn ∧ hM h' a = some e ∧ FC (fun x => x = rn) 0 0 h h' := by
  obtain ⟨v, sd, b1, b2, b3⟩ := L_below (N := N) hR h0 h1
  obtain ⟨R1, F1⟩ := Rn_put (h := h) (rn := rn) (sd := sd)
  exact ⟨v, _, b1, b2, b3, R1, (hM_put_ne har).trans hm, F1⟩
theorem setN {i : Nat} {fs : List Value} {v : Value} (hR : RnAt h rn) (hm : hM h a = some (.inr (10, fs))) (har : a ≠ rn) (hi : i < fs.length) : ∃ h', pF h a 10 i v = some h' ∧ hM h' a = some (.inr (10, fs.set i v)) ∧ RnAt h' rn ∧ FC (fun x => x = a) 0 0 h h' := by
  obtain ⟨sd, h2⟩ := hR
  exact ⟨_, pF_of' hm hi, hM_put_eq, ⟨sd, (hM_put_ne (Ne.symm har)).trans h2⟩, FC_put⟩
def raW (rn a : Nat) : Nat → Prop := fun x => x = rn ∨ x = a
theorem FC_r {c m : Nat} (f : FC (fun x => x = rn) c m h h') : FC (raW rn a) c m h h' := FC_mono f (Nat.le_refl _) (Nat.le_refl _) (fun _ _ h => Or.inl h)
theorem FC_a {c m : Nat} (f : FC (fun x => x = a) c m h h') : FC (raW rn a) c m h h' := FC_mono f (Nat.le_refl _) (Nat.le_refl _) (fun _ _ h => Or.inr h)
theorem FC_ra {h1 h2 : zH} (f1 : FC (raW rn a) 0 0 h h1) (f2 : FC (raW rn a) 0 0 h1 h2) : FC (raW rn a) 0 0 h h2 := FC_tr f1 f2
/-- kind and number are chosen -/
theorem nd_head {dp bd : Nat} {rs : Nat → Int32 → zH → Option (Nat × zH)} (hb : (dp = 0 ∧ bd = 2) ∨ (0 < dp ∧ dp < 100 ∧ bd = 6)) (hR : RnAt h rn) (hrn : rn < hS h) : ∃ (k v : Nat) (h2 : zH), k < bd ∧ (k = 0 → v < 10000) ∧ (0 < k → v < 4) ∧ f_X10_random N rs rn (nI dp) h = f_X10_random_j67 N rs rn (nI dp) (hS h) (hS h) (nI v) h2 ∧ hM h2 (hS h) = some (ndO k 0 .null .null) ∧ RnAt h2 rn ∧ FC (fun x => x = rn) 1 4 h h2 ∧ hS h < hS h2 := by
  have f0 : FC nW 1 4 h (hNew h (ndO 0 0 .null .null) 4) := FC_new
  have hR1 : RnAt (hNew h (ndO 0 0 .null .null) 4) rn := Rn_fc hR f0 hrn (fun h => h)
  have hne : hS h ≠ rn := by omega
  have hs1 : hS (hNew h (ndO 0 0 .null .null) 4) = hS h + 1 := hS_new _ _ _
  have w0 : nwOb 10 [.int (nI 0), .int (nI 0), .null, .null] h = some (hS h, hNew h (ndO 0 0 .null .null) 4) := rfl
  have hm1 : hM (hNew h (ndO 0 0 .null .null) 4) (hS h) = some (ndO 0 0 .null .null) := hM_new_eq
  generalize hNew h (ndO 0 0 .null .null) 4 = h1 at f0 hR1 hs1 w0 hm1
  -- from the kind on
  have tail : ∀ (k : Nat) (h3 : zH), RnAt h3 rn → hM h3 (hS h) = some (ndO 0 0 .null .null) → k < 6 → FC (raW rn (hS h)) 0 0 h1 h3 → ∃ (v : Nat) (h2 : zH), (k = 0 → v < 10000) ∧ (0 < k → v < 4) ∧ f_X10_random_j27 N rs rn (nI dp) (hS h) (hS h) (nI k) h3 = f_X10_random_j67 N rs rn (nI dp) (hS h) (hS h) (nI v) h2 ∧ hM h2 (hS h) = some (ndO k 0 .null .null) ∧ RnAt h2 rn ∧ FC (raW rn (hS h)) 0 0 h1 h2 := by
    intro k h3 r3 m3 hk f3
    obtain ⟨h4, p1, p2, p3, p4⟩ := setN (i := 0) (v := .int (nI k)) r3 m3 hne (by decide)
    have p2 : hM h4 (hS h) = some (ndO k 0 .null .null) := p2
    have e1 : gI h4 (hS h) 10 0 = some (nI k) := gI_of' p2 rfl
    have f4 := FC_ra f3 (FC_a p4)
    by_cases hk0 : k = 0
    · subst hk0
      obtain ⟨u, h5, c1, c2, c3, c4, c5, c6⟩ := bel (N := N) (bd := 8) p3 p2 hne (by omega) (by omega)
      have f5 := FC_ra f4 (FC_r c6)
      by_cases hu : u = 0
      · subst hu
        obtain ⟨v, h6, d1, d2, d3, d4, d5, d6⟩ := bel (N := N) (bd := 10000) c4 c5 hne (by omega) (by omega)
        refine ⟨v, h6, fun _ => d1, fun h9 => absurd h9 (by omega), ?_, d5, d4, FC_ra f5 (FC_r d6)⟩
        simp (disch := omega) only [f_X10_random_j27, f_X10_random_j56, p1, e1, nlit, neqT, c2, c3, d2, d3, Option.bind_some, ↓reduceIte]
      · obtain ⟨v, h6, d1, d2, d3, d4, d5, d6⟩ := bel (N := N) (bd := 9) c4 c5 hne (by omega) (by omega)
        refine ⟨v, h6, fun _ => by omega, fun h9 => absurd h9 (by omega), ?_, d5, d4, FC_ra f5 (FC_r d6)⟩
        simp (disch := omega) only [f_X10_random_j27, f_X10_random_j56, p1, e1, nlit, neqT, neqF, c2, c3, d2, d3, Option.bind_some, ↓reduceIte]
    · obtain ⟨u, h5, c1, c2, c3, c4, c5, c6⟩ := bel (N := N) (bd := 4) p3 p2 hne (by omega) (by omega)
      refine ⟨u, h5, fun h9 => absurd h9 hk0, fun _ => c1, ?_, c5, c4, FC_ra f4 (FC_r c6)⟩
      simp (disch := omega) only [f_X10_random_j27, p1, e1, nlit, neqF, c2, c3, Option.bind_some, ↓reduceIte]
  obtain ⟨k, h3, a1, a2, a3, a4, a5, a6⟩ := bel (N := N) (bd := bd) hR1 hm1 hne (by omega) (by omega)
  obtain ⟨v, h2, t1, t2, t3, t4, t5, t6⟩ := tail k h3 a4 a5 (by omega) (FC_r a6)
  refine ⟨k, v, h2, a1, t1, t2, ?_, t4, t5, FC_mono (FC_tr (FC_mono (W' := raW rn (hS h)) f0 (Nat.le_refl _) (Nat.le_refl _) (fun _ _ h => h.elim)) t6) (by omega) (by omega) (fun x hx hw => by rcases hw with hw | hw; exact hw; omega), by have := t6.1.1; omega⟩
  rcases hb with ⟨rfl, rfl⟩ | ⟨hd, hd2, rfl⟩
  · simp (disch := omega) only [f_X10_random, f_X10_init, w0, nlit, neqT, a2, a3, t3, Option.bind_some, ↓reduceIte]
  · simp (disch := omega) only [f_X10_random, f_X10_init, w0, nlit, neqF, a2, a3, t3, Option.bind_some, ↓reduceIte]
theorem nd_leaf {dp k v : Nat} {rs : Nat → Int32 → zH → Option (Nat × zH)} (hk : k ≤ 1) (hm : hM h a = some (ndO k 0 .null .null)) (hR : RnAt h rn) (har : a ≠ rn) : ∃ h', f_X10_random_j67 N rs rn (nI dp) a a (nI v) h = some (a, h') ∧ hM h' a = some (ndO k v .null .null) ∧ RnAt h' rn ∧ FC (fun x => x = a) 0 0 h h' := by
  obtain ⟨h1, p1, p2, p3, p4⟩ := setN (i := 1) (v := .int (nI v)) hR hm har (by show 1 < 4; decide)
  have e1 : gI h1 a 10 0 = some (nI k) := gI_of' p2 rfl
  refine ⟨h1, ?_, p2, p3, p4⟩
  simp (disch := omega) only [f_X10_random_j67, p1, e1, nlit, nleT, Option.bind_some, ↓reduceIte]
theorem leaf_mk {k v : Nat} (b : MB M h) (ha : ¬ M a) (hk : k ≤ 1) (h0 : k = 0 → v < 10000) (h1 : 0 < k → v < 4) (hm : hM h a = some (ndO k v .null .null)) (has : a < hS h) : ∃ C X, LeafAt M h a C X := by
  rcases (show k = 0 ∨ k = 1 by omega) with rfl | rfl
  · exact ⟨[v], fun _ => digX v, v, .null, .null, Or.inl ⟨⟨hm, has, ha⟩, h0 rfl, rfl, fun _ => rfl⟩⟩
  · exact ⟨[10000 + v], fun _ => varX v, v, .null, .null, Or.inr ⟨⟨hm, has, ha⟩, h1 (by omega), rfl, fun _ => rfl⟩⟩
theorem L_node : ∀ (n fu : Nat) (M : Nat → Prop) (h : zH), n < fu → n ≤ 2 → MB M h → M rn → rn < hS h → RnAt h rn → ∃ r h' C X, f_X10_randomN N fu rn (nI n) h = some (r, h') ∧ NodeAt M h' n r C X ∧ RnAt h' rn ∧ FC (fun x => x = rn) (ndC n) (4 * ndC n) h h' := by
  intro n
  induction n with
  | zero =>
    intro fu M h hf _ b hM9 hrn hR
    obtain ⟨f, rfl⟩ : ∃ f, fu = f + 1 := ⟨fu - 1, by omega⟩
    obtain ⟨k, v, h2, a1, a2, a3, a4, a5, a6, a7, a8⟩ := nd_head (N := N) (dp := 0) (bd := 2) (rs := f_X10_randomN N f) (Or.inl ⟨rfl, rfl⟩) hR hrn
    obtain ⟨h3, b1, b2', b3, b4⟩ := nd_leaf (N := N) (dp := 0) (v := v) (rs := f_X10_randomN N f) (show k ≤ 1 by omega) a5 a6 (by omega)
    have hMa : ¬ M (hS h) := fun h9 => by have := b _ h9; omega
    obtain ⟨C, X, hl⟩ := leaf_mk (MB_fc (MB_fc b a7) b4) hMa (by omega) a2 a3 b2' (by have := b4.1.1; omega)
    refine ⟨hS h, h3, C, X, ?_, hl, b3, FC_mono (FC_tr (FC_r (a := hS h) a7) (FC_a (rn := rn) b4)) (Nat.le_refl _) (Nat.le_refl _) (fun x hx hw => by rcases hw with hw | hw; exact hw; omega)⟩
    show f_X10_random N (f_X10_randomN N f) rn (nI 0) h = _
    rw [a4, b1]
  | succ n ih =>
    intro fu M h hf h2n b hM9 hrn hR
    obtain ⟨f, rfl⟩ : ∃ f, fu = f + 1 := ⟨fu - 1, by omega⟩
    obtain ⟨k, v, h2, a1, a2, a3, a4, a5, a6, a7, a8⟩ := nd_head (N := N) (dp := n + 1) (bd := 6) (rs := f_X10_randomN N f) (Or.inr ⟨by omega, by omega, rfl⟩) hR hrn
    have hMa : ¬ M (hS h) := fun h9 => by have := b _ h9; omega
    have hrun : f_X10_randomN N (f + 1) rn (nI (n + 1)) h = f_X10_random_j67 N (f_X10_randomN N f) rn (nI (n + 1)) (hS h) (hS h) (nI v) h2 := a4
    by_cases hk : k ≤ 1
    · obtain ⟨h3, b1, b2', b3, b4⟩ := nd_leaf (N := N) (dp := n + 1) (v := v) (rs := f_X10_randomN N f) hk a5 a6 (by omega)
      obtain ⟨C, X, hl⟩ := leaf_mk (MB_fc (MB_fc b a7) b4) hMa hk a2 a3 b2' (by have := b4.1.1; omega)
      refine ⟨hS h, h3, C, X, ?_, Or.inl hl, b3, FC_mono (FC_tr (FC_r (a := hS h) a7) (FC_a (rn := rn) b4)) (by show 1 + 0 ≤ 1 + 2 * ndC n; omega) (by show 4 + 0 ≤ 4 * (1 + 2 * ndC n); omega) (fun x hx hw => by rcases hw with hw | hw; exact hw; omega)⟩
      rw [hrun, b1]
    · have hne : hS h ≠ rn := by omega
      obtain ⟨h3, p1, p2, p3, p4⟩ := setN (i := 1) (v := .int (nI v)) a6 a5 hne (by show 1 < 4; decide)
      have e1 : gI h3 (hS h) 10 0 = some (nI k) := gI_of' p2 rfl
      have s3 : hS h < hS h3 := by have := p4.1.1; omega
      -- the children, under the wider M
      have B3 : MB (fun x => M x ∨ x = hS h) h3 := fun x hx => by
        rcases hx with hx | hx
        · exact MB_fc (MB_fc b a7) p4 x hx
        · rw [hx]; exact s3
      obtain ⟨r1, h4, C1, X1, i1, i2, i3, i4⟩ := ih f (fun x => M x ∨ x = hS h) h3 (by omega) (by omega) B3 (Or.inl hM9) (by omega) p3
      have m4 : hM h4 (hS h) = some (ndO k v .null .null) := cell_fc p2 s3 i4 (fun hx => hne hx) (fun σ e => by cases e)
      obtain ⟨h5, q1, q2, q3, q4⟩ := setN (i := 2) (v := .ref r1) i3 m4 hne (by show 2 < 4; decide)
      have n5 := NodeAt_fc q4 (M := fun x => M x ∨ x = hS h) (fun y hy => Or.inr hy) n r1 C1 X1 i2
      have s5 : hS h < hS h5 := by have := i4.1.1; have := q4.1.1; omega
      obtain ⟨r2, h6, C2, X2, j1, j2, j3, j4⟩ := ih f (fun x => M x ∨ x = hS h) h5 (by omega) (by omega) (MB_fc (MB_fc B3 i4) q4) (Or.inl hM9) (by omega) q3
      have n6 := NodeAt_fc j4 (M := fun x => M x ∨ x = hS h) (fun y hy => Or.inl (by rw [hy]; exact hM9)) n r1 C1 X1 n5
      have m6 : hM h6 (hS h) = some (ndO k v (.ref r1) .null) := cell_fc q2 s5 j4 (fun hx => hne hx) (fun σ e => by cases e)
      obtain ⟨h7, u1, u2, u3, u4⟩ := setN (i := 3) (v := .ref r2) j3 m6 hne (by show 3 < 4; decide)
      have n7 := NodeAt_fc u4 (M := fun x => M x ∨ x = hS h) (fun y hy => Or.inr hy) n r1 C1 X1 n6
      have n8 := NodeAt_fc u4 (M := fun x => M x ∨ x = hS h) (fun y hy => Or.inr hy) n r2 C2 X2 j2
      have s7 : hS h < hS h7 := by have := j4.1.1; have := u4.1.1; omega
      have m7 : hM h7 (hS h) = some (ndO k v (.ref r1) (.ref r2)) := u2
      refine ⟨hS h, h7, C1 ++ C2 ++ [10004 + (k - 2)], binX (k - 2) X1 X2, ?_, Or.inr ⟨k - 2, r1, r2, .int (nI v), C1, C2, X1, X2, by omega, ⟨by rw [show 2 + (k - 2) = k by omega]; exact m7, s7, hMa⟩, NodeAt_M (fun y _ hy => Or.inl hy) n r1 C1 X1 n7, NodeAt_M (fun y _ hy => Or.inl hy) n r2 C2 X2 n8, rfl, fun _ => rfl⟩, u3, FC_mono (FC_tr (FC_r (a := hS h) a7) (FC_tr (FC_a (rn := rn) p4) (FC_tr (FC_r (a := hS h) i4) (FC_tr (FC_a (rn := rn) q4) (FC_tr (FC_r (a := hS h) j4) (FC_a (rn := rn) u4)))))) (by show _ ≤ 1 + 2 * ndC n; omega) (by show _ ≤ 4 * (1 + 2 * ndC n); omega) (fun x hx hw => by rcases hw with hw | hw; exact hw; omega)⟩
      rw [hrun]
      simp (disch := omega) only [f_X10_random_j67, p1, e1, nlit, nleF, nsub, Nat.add_sub_cancel, i1, q1, j1, u1, Option.bind_some, ↓reduceIte]
end M805

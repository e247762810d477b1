theorem AucAt_hs {b0 : Nat} {h : zH} {d : Nat → Nat} {K : Nat} {t : Nat → Nat} {x y z : Int32} {C F : Nat → Int32} {τ : Nat → Int64} (hA : AucAt b0 h (b0 + 46) d K t) : AucAt b0 (hset h (b0 + 390) (b0 + 1) x y C τ z F) (b0 + 46) d K t := AucAt_sim hA (Nat.le_refl _) (fun q _ _ => Or.inl (rs_out (by omega))) (fun rl k hr hk => Or.inl (rs_out (by
  obtain ⟨-, hr⟩ := hr
  rcases hr with ⟨i, v1, v2⟩ | ⟨i, v1, v2⟩ | v2 <;> omega)))
theorem GrpAt_hs {b0 : Nat} {h : zH} {x y z : Int32} {C F : Nat → Int32} {τ : Nat → Int64} (hG : GrpAt h (b0 + 1)) : GrpAt (hset h (b0 + 390) (b0 + 1) x y C τ z F) (b0 + 1) := GrpAt_sim hG (fun k hk => Or.inl (rs_out (by omega)))
def zT (τ : Nat → Int64) (i : Nat) : Nat → Int64 := fun j => if j < i then 0 else τ j
theorem zT_step (τ : Nat → Int64) (i : Nat) : vp_updL (zT τ i) i 0 = zT τ (i + 1) := by
  funext j
  unfold zT
  by_cases hj : j = i
  · subst hj
    rw [updL_eq, if_pos (by omega)]
  · rw [updL_ne hj]
    by_cases h2 : j < i
    · rw [if_pos h2, if_pos (by omega)]
    · rw [if_neg h2, if_neg (by omega)]
theorem AT_zT {τ : Nat → Int64} {m e : Nat} (hm : m ≤ 256) (he : e < 128) : AT (zT τ 514) m e = false := by
  unfold AT zT
  rw [if_pos (by omega), wx_0, Nat.zero_testBit]
section M995a
variable {h : zH} {q g N : Nat} {x y z : Int32} {C F : Nat → Int32} {τ : Nat → Int64}
theorem x_fill_l : ∀ (r i fuel : Nat), i + r = 514 → r < fuel → f_J7_fill_d0a16_l6 N (q + 2) 0 (nI 514) fuel (nI i) (hset h q g x y C (zT τ i) z F) = some (hset h q g x y C (zT τ 514) z F) := by
  intro r
  induction r with
  | zero =>
    intro i fuel hi hf
    obtain ⟨fuel, rfl⟩ : ∃ m, fuel = m + 1 := ⟨fuel - 1, by omega⟩
    have : i = 514 := by omega
    subst this
    simp (disch := omega) only [f_J7_fill_d0a16_l6, nleT, ↓reduceIte]
  | succ r ih =>
    intro i fuel hi hf
    obtain ⟨fuel, rfl⟩ : ∃ m, fuel = m + 1 := ⟨fuel - 1, by omega⟩
    rw [← ih (i + 1) fuel (by omega) (by omega), ← zT_step]
    simp (disch := omega) only [f_J7_fill_d0a16_l6, nleF, hs_stT, ↓reduceIte, Option.bind_some]
    rw [show (1 : Int32) = nI 1 from rfl, nadd]
theorem x_fill (hNN : 1000 < N) : f_J7_fill_d0a16 N (q + 2) 0 (hset h q g x y C τ z F) = some (hset h q g x y C (zT τ 514) z F) := by
  have e : zT τ 0 = τ := funext fun j => if_neg (Nat.not_lt_zero j)
  have := x_fill_l (N := N) (h := h) (q := q) (g := g) (x := x) (y := y) (C := C) (τ := τ) (z := z) (F := F) 514 0 N (by omega) (by omega)
  rw [e] at this
  simp only [f_J7_fill_d0a16, hs_lenT, Option.bind_some]
  exact this
end M995a
section M995
variable {h : zH} {b0 K N p : Nat} {x y z : Int32} {C F : Nat → Int32} {τ : Nat → Int64} {d : Nat → Nat} {t : Nat → Nat}
def cardG (d : Nat → Nat) (p : Nat) : Nat → Nat := fun c => idxN (d 0) (d (11 + 19 * p + 3 + 2 * c))
theorem x_take74 {c gc n : Nat} {v1 : Nat} {k1 : zH → Option zH} (hNN : 100 < N) (hG : GrpAt h (b0 + 1)) (hn : inN n) (hc : c < 8) (hg : gc < fctN n) : ∀ (r e fuel : Nat) (C : Nat → Int32), e + r = fctN n → r < fuel → (∀ e', e' < e → C (c * 120 + e') = nI (mulN e' gc)) → ∃ C' : Nat → Int32, f_X3_takeHand_l74 N (b0 + 390) v1 (nI (fctN n)) (nI c) (nI gc) k1 fuel (nI e) (hset h (b0 + 390) (b0 + 1) x y C τ z F) = k1 (hset h (b0 + 390) (b0 + 1) x y C' τ z F) ∧ (∀ e', e' < fctN n → C' (c * 120 + e') = nI (mulN e' gc)) ∧ ∀ i, i < c * 120 → C' i = C i := by
  have hf := fct_le hn
  intro r
  induction r with
  | zero =>
    intro e fuel C he hfu hC
    obtain ⟨fuel, rfl⟩ : ∃ m, fuel = m + 1 := ⟨fuel - 1, by omega⟩
    have : e = fctN n := by omega
    subst this
    refine ⟨C, ?_, hC, fun _ _ => rfl⟩
    simp (disch := omega) only [f_X3_takeHand_l74, nleT, ↓reduceIte]
  | succ r ih =>
    intro e fuel C he hfu hC
    obtain ⟨fuel, rfl⟩ : ∃ m, fuel = m + 1 := ⟨fuel - 1, by omega⟩
    have q1 := x_times (N := N) (GrpAt_hs (x := x) (y := y) (z := z) (C := C) (F := F) (τ := τ) hG) (by omega) (a := e) (b := gc) (by omega) (by omega)
    obtain ⟨C', i1, i2, i3⟩ := ih (e + 1) fuel (upd C (c * 120 + e) (nI (mulN e gc))) (by omega) (by omega) (fun e' he' => by
      by_cases hee : e' = e
      · subst hee; rw [upS_eq]
      · rw [upS_ne (by omega)]; exact hC e' (by omega))
    refine ⟨C', ?_, i2, fun i hi => by rw [i3 i hi, upS_ne (by omega)]⟩
    rw [← i1]
    have o2 : ∀ G : Option (Int32 × zH), onO 2 (b0 + 1) (hset h (b0 + 390) (b0 + 1) x y C τ z F) G = G := fun G => w_o2 (GrpAt_hs hG)
    simp (disch := omega) only [f_X3_takeHand_l74, nlit, nleF, nmul, nadd, hs_g, o2, q1, hs_stC, ↓reduceIte, Option.bind_some]
theorem x_take51 (hNN : 200 < N) (hG : GrpAt h (b0 + 1)) (hD : GoodD d) (hA : AucAt b0 h (b0 + 46) d K t) (hp : p < d 1) : ∀ (r c fuel : Nat) (C : Nat → Int32), c + r = d (11 + 19 * p + 1) → r < fuel → (∀ c' e, c' < c → e < fctN (d 0) → C (c' * 120 + e) = nI (mulN e (cardG d p c'))) → ∃ C' : Nat → Int32, f_X3_takeHand_l51 N (b0 + 390) (b0 + 46 + (2 + 5 * p)) (nI (fctN (d 0))) fuel (nI c) (hset h (b0 + 390) (b0 + 1) (nI (d (11 + 19 * p + 1))) y C τ z F) = some (hset h (b0 + 390) (b0 + 1) (nI (d (11 + 19 * p + 1))) y C' τ z F) ∧ ∀ c' e, c' < d (11 + 19 * p + 1) → e < fctN (d 0) → C' (c' * 120 + e) = nI (mulN e (cardG d p c')) := by
  obtain ⟨⟨g0, g1, g2, g3, g4, g5, g7⟩, gb, gl, gp, gm⟩ := id hD
  obtain ⟨p8, pw', pc⟩ := gp p hp
  have hp5 : p < 5 := by omega
  have hf := fct_le g0
  intro r
  induction r with
  | zero =>
    intro c fuel C hc hfu hC
    obtain ⟨fuel, rfl⟩ : ∃ m, fuel = m + 1 := ⟨fuel - 1, by omega⟩
    have : c = d (11 + 19 * p + 1) := by omega
    subst this
    refine ⟨C, ?_, hC⟩
    simp (disch := omega) only [f_X3_takeHand_l51, hs_g, nleT, ↓reduceIte, Option.bind_some]
  | succ r ih =>
    intro c fuel C hc hfu hC
    obtain ⟨fuel, rfl⟩ : ∃ m, fuel = m + 1 := ⟨fuel - 1, by omega⟩
    have hcc : c < d (11 + 19 * p + 1) := by omega
    have hA1 := AucAt_hs (x := nI (d (11 + 19 * p + 1))) (y := y) (z := z) (C := C) (F := F) (τ := τ) hA
    have kB := w_bA hp hD hA1
    have a1 := w_at_e (N := N) hp hcc hD hA1
    have o6 : ∀ G : Option (Int32 × zH), onO 6 (b0 + 46 + (3 + 5 * p)) (hset h (b0 + 390) (b0 + 1) (nI (d (11 + 19 * p + 1))) y C τ z F) G = G := fun G => w_o6 hA1 (isR_e hp5)
    obtain ⟨C1, q1, q2, q3⟩ := x_take74 (N := N) (x := nI (d (11 + 19 * p + 1))) (y := y) (z := z) (F := F) (τ := τ) (v1 := b0 + 46 + (2 + 5 * p)) (k1 := fun (h19 : zH) => f_X3_takeHand_l51 N (b0 + 390) (b0 + 46 + (2 + 5 * p)) (nI (fctN (d 0))) fuel (nI c + (1 : Int32)) h19) (by omega) hG g0 (show c < 8 by omega) (isN_idx g0 (pc c hcc).1).1 (fctN (d 0)) 0 N C (by omega) (by omega) (fun e' he' => absurd he' (Nat.not_lt_zero e'))
    obtain ⟨C2, i1, i2⟩ := ih (c + 1) fuel C1 (by omega) (by omega) (fun c' e hc' he => by
      by_cases hee : c' = c
      · subst hee; exact q2 e he
      · rw [q3 _ (by omega)]; exact hC c' e (by omega) he)
    refine ⟨C2, ?_, i2⟩
    rw [← i1]
    simp (disch := omega) only [nlit, nadd] at q1
    simp (disch := omega) only [f_X3_takeHand_l51, hs_g, nlit, nleF, nadd, kB, o6, a1, ↓reduceIte, Option.bind_some]
    exact q1
theorem x_takeHand (hNN : 1000 < N) (hG : GrpAt h (b0 + 1)) (hD : GoodD d) (hA : AucAt b0 h (b0 + 46) d K t) (hp : p < d 1) : ∃ C' : Nat → Int32, f_X3_takeHand N (b0 + 390) (b0 + 46 + (2 + 5 * p)) (nI (d 0)) (hset h (b0 + 390) (b0 + 1) x y C τ z F) = some (hset h (b0 + 390) (b0 + 1) (nI (d (11 + 19 * p + 1))) (nI (2 ^ d (11 + 19 * p + 1))) C' (zT τ 514) z F) ∧ ∀ c' e, c' < d (11 + 19 * p + 1) → e < fctN (d 0) → C' (c' * 120 + e) = nI (mulN e (cardG d p c')) := by
  obtain ⟨⟨g0, g1, g2, g3, g4, g5, g7⟩, gb, gl, gp, gm⟩ := id hD
  obtain ⟨p8, pw', pc⟩ := gp p hp
  have hp5 : p < 5 := by omega
  have hf := fct_le g0
  obtain ⟨C', q1, q2⟩ := x_take51 (N := N) (y := nI (2 ^ d (11 + 19 * p + 1))) (z := z) (F := F) (τ := zT τ 514) (by omega) hG hD hA hp (d (11 + 19 * p + 1)) 0 N C (by omega) (by omega) (fun c' e hc' _ => absurd hc' (Nat.not_lt_zero c'))
  refine ⟨C', ?_, q2⟩
  have hA1 := AucAt_hs (x := x) (y := y) (z := z) (C := C) (F := F) (τ := zT τ 514) hA
  have kB := w_bA hp hD hA1
  have ks := w_size_e (N := N) hp hD hA1
  have o6 : ∀ G : Option (Int32 × zH), onO 6 (b0 + 46 + (3 + 5 * p)) (hset h (b0 + 390) (b0 + 1) x y C (zT τ 514) z F) G = G := fun G => w_o6 hA1 (isR_e hp5)
  have f1 := x_fill (N := N) (h := h) (q := b0 + 390) (g := b0 + 1) (x := x) (y := y) (C := C) (τ := τ) (z := z) (F := F) hNN
  have m1 := x_min (N := N) (x := d (11 + 19 * p + 1)) (y := 8) (k := hset h (b0 + 390) (b0 + 1) x y C (zT τ 514) z F) (by omega) (by omega)
  rw [Nat.min_eq_left p8] at m1
  have m2 := x_min (N := N) (x := fctN (d 0)) (y := 120) (k := hset h (b0 + 390) (b0 + 1) (nI (d (11 + 19 * p + 1))) (nI (2 ^ d (11 + 19 * p + 1))) C (zT τ 514) z F) (by omega) (by omega)
  rw [Nat.min_eq_left hf] at m2
  have sl : nI 1 <<< (nI (d (11 + 19 * p + 1)) &&& nI 31) = nI (2 ^ d (11 + 19 * p + 1)) := i_shl p8
  have ct := x_count (N := N) (g := b0 + 1) (h := hset h (b0 + 390) (b0 + 1) (nI (d (11 + 19 * p + 1))) (nI (2 ^ d (11 + 19 * p + 1))) C (zT τ 514) z F) (by omega) g0
  have o2 : ∀ G : Option (Int32 × zH), onO 2 (b0 + 1) (hset h (b0 + 390) (b0 + 1) (nI (d (11 + 19 * p + 1))) (nI (2 ^ d (11 + 19 * p + 1))) C (zT τ 514) z F) G = G := fun G => w_o2 (GrpAt_hs hG)
  refine Eq.trans ?_ q1
  simp only [f_X3_takeHand, hs_g, f1, kB, o6, ks, nlit, m1, hs_p4, hs_p5, sl, o2, ct, m2, Option.bind_some]
theorem x_study (hNN : 1000 < N) (hG : GrpAt h (b0 + 1)) (hD : GoodD d) (hA : AucAt b0 h (b0 + 46) d K t) (hp : p < d 1) : ∃ (C' : Nat → Int32) (τ' : Nat → Int64), f_X3_study N (b0 + 390) (b0 + 46 + (2 + 5 * p)) (nI (d 0)) (hset h (b0 + 390) (b0 + 1) x y C τ z F) = some (hset h (b0 + 390) (b0 + 1) (nI (d (11 + 19 * p + 1))) (nI (2 ^ d (11 + 19 * p + 1))) C' τ' z F) ∧ RngT (d 0) τ' ∧ ∀ m e, m < 2 ^ d (11 + 19 * p + 1) → e < fctN (d 0) → (AT τ' m e = true ↔ Rch (d (11 + 19 * p + 1)) (cardG d p) 9 0 m e) := by
  obtain ⟨⟨g0, g1, g2, g3, g4, g5, g7⟩, gb, gl, gp, gm⟩ := id hD
  obtain ⟨p8, pw', pc⟩ := gp p hp
  have hf := fct_le g0
  have hf1 := fct_pos g0
  have p2 := pow2_le p8
  obtain ⟨C', q1, q2⟩ := x_takeHand (N := N) (x := x) (y := y) (C := C) (τ := τ) (z := z) (F := F) hNN hG hD hA hp
  have i1 := x_include (N := N) (h := h) (q := b0 + 390) (g := b0 + 1) (x := nI (d (11 + 19 * p + 1))) (y := nI (2 ^ d (11 + 19 * p + 1))) (C := C') (τ := zT τ 514) (z := z) (F := F) (m := 0) (e := 0) (by omega) (by omega)
  have hi : ∀ m e, m ≤ 256 → e < 128 → (AT (incT (zT τ 514) 0 0) m e = true ↔ m = 0 ∧ e = 0) := by
    intro m e hm he
    rw [AT_inc (by omega) he, AT_zT hm he]
    simp
  have hGc : ∀ c, c < d (11 + 19 * p + 1) → cardG d p c < fctN (d 0) := fun c hc => (isN_idx g0 (pc c hc).1).1
  obtain ⟨τ', s1, s2, s3, s4, s5⟩ := x_st14 (N := N) (h := h) (q := b0 + 390) (g := b0 + 1) (x := nI (d (11 + 19 * p + 1))) (y := nI (2 ^ d (11 + 19 * p + 1))) (C := C') (z := z) (F := F) (a := 0) (G := cardG d p) (by omega) g0 p8 (by omega) q2 hGc rfl rfl (2 ^ d (11 + 19 * p + 1)) 0 N (incT (zT τ 514) 0 0) (by omega) (by omega) (fun m e hm he h1 => by rw [((hi m e hm he).mp h1).2]; omega) ((hi 0 0 (by omega) (by omega)).mpr ⟨rfl, rfl⟩) (fun m e hm he h1 => by
    obtain ⟨rfl, rfl⟩ := (hi m e (by omega) (by omega)).mp h1
    exact Rch_0) (fun m e c hm => absurd hm (Nat.not_lt_zero m))
  refine ⟨C', τ', ?_, s2, fun m e hm he => Tab_iff p8 g0 (by omega) hGc s3 s4 s5 hm he⟩
  refine Eq.trans ?_ s1
  simp only [f_X3_study, hs_o3, q1, nlit, i1, Option.bind_some]
end M995

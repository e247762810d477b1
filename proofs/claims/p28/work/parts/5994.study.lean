section M994
variable {h : zH} {q g N : Nat} {x y z : Int32} {C F : Nat → Int32} {τ : Nat → Int64}
/-- only elements are in the sets -/
def RngT (n : Nat) (τ : Nat → Int64) : Prop := ∀ m e, m ≤ 256 → e < 128 → AT τ m e = true → e < fctN n
theorem AT_word {τ : Nat → Int64} {m half j : Nat} (hj : j < 64) : (wx (τ (2 * m + half))).testBit j = AT τ m (64 * half + j) ∨ 2 ≤ half := by
  by_cases hh : 2 ≤ half
  · exact Or.inr hh
  · refine Or.inl ?_
    unfold AT
    rw [show 2 * m + (64 * half + j) / 64 = 2 * m + half by omega, show (64 * half + j) % 64 = j by omega]
theorem x_extend {n k m c gc : Nat} (hNN : 100 < N) (hn : inN n) (hk : k ≤ 8) (hm : m < 2 ^ k) (hc : c < k) (hb : bitN m c = 0) (hC : ∀ e, e < fctN n → C (c * 120 + e) = nI (mulN e gc)) (hg : gc < fctN n) (hR : RngT n τ) : ∃ τ' : Nat → Int64, f_X3_extend N q (nI m) (nI c) (hset h q g x y C τ z F) = some (hset h q g x y C τ' z F) ∧ ∀ m' e', e' < 128 → (AT τ' m' e' = true ↔ AT τ m' e' = true ∨ (m' = m + 2 ^ c ∧ ∃ e, e < fctN n ∧ AT τ m e = true ∧ e' = mulN e gc)) := by
  have hf := fct_le hn
  have p2 := pow2_le hk
  have ba := bit_add hk hm hc hb
  have c8 : c < 8 := by omega
  have m8 : m < 256 := by omega
  have eo : nI m ||| ((nI 1) <<< (nI c &&& nI 31)) = nI (m + 2 ^ c) := by
    have := i_or m8 c8
    unfold orN at this
    rw [if_neg (by omega)] at this
    exact this
  have a1 : (nI m < nI 0) = False := eq_false (nI_nn (by omega))
  have a0 : (nI m < 0) = False := a1
  have hw : m + 2 ^ c ≤ 256 := by omega
  have hmw : m ≠ m + 2 ^ c := by have := Nat.two_pow_pos c; omega
  -- first half
  have key : ∀ f, ∃ τ' : Nat → Int64, f_X3_extend_l21 N q (nI m) (nI c) (nI (m + 2 ^ c)) (f + 1 + 1 + 1) (nI 0) (hset h q g x y C τ z F) = some (hset h q g x y C τ' z F) ∧ ∀ m' e', e' < 128 → (AT τ' m' e' = true ↔ AT τ m' e' = true ∨ (m' = m + 2 ^ c ∧ ∃ e, e < fctN n ∧ AT τ m e = true ∧ e' = mulN e gc)) := by
    intro f
    have w1 : ∀ j, j < 64 → (wx (τ (2 * m + 0))).testBit j = AT τ m (64 * 0 + j) := fun j hj => (AT_word (half := 0) hj).resolve_right (by omega)
    obtain ⟨τ1, a2, a3⟩ := x_ext43 (N := N) (h := h) (q := q) (g := g) (x := x) (y := y) (z := z) (F := F) (v1 := nI m) (half := 0) (k1 := fun (h6 : zH) => f_X3_extend_l21 N q (nI m) (nI c) (nI (m + 2 ^ c)) (f + 1 + 1) (nI 0 + (1 : Int32)) h6) hn c8 hw (by omega) hC hg 64 0 N (τ (2 * m + 0)) τ (by omega) (by omega) (fun j hj => absurd hj (Nat.not_lt_zero j)) (fun j hj h9 => hR m _ (by omega) (by omega) (by rw [← w1 j hj]; exact h9))
    have w2 : ∀ j, j < 64 → (wx (τ1 (2 * m + 1))).testBit j = AT τ1 m (64 * 1 + j) := fun j hj => (AT_word (half := 1) hj).resolve_right (by omega)
    have w3 : ∀ e, e < 128 → (AT τ1 m e = true ↔ AT τ m e = true) := fun e he => by
      rw [a3 m e he]
      exact ⟨fun h9 => h9.elim id (fun h8 => absurd h8.1 hmw), Or.inl⟩
    obtain ⟨τ2, a4, a5⟩ := x_ext43 (N := N) (h := h) (q := q) (g := g) (x := x) (y := y) (z := z) (F := F) (v1 := nI m) (half := 1) (k1 := fun (h6 : zH) => f_X3_extend_l21 N q (nI m) (nI c) (nI (m + 2 ^ c)) (f + 1) (nI 1 + (1 : Int32)) h6) hn c8 hw (by omega) hC hg 64 0 N (τ1 (2 * m + 1)) τ1 (by omega) (by omega) (fun j hj => absurd hj (Nat.not_lt_zero j)) (fun j hj h9 => hR m _ (by omega) (by omega) ((w3 _ (by omega)).mp (by rw [← w2 j hj]; exact h9)))
    refine ⟨τ2, ?_, fun m' e' he' => ?_⟩
    · simp (disch := omega) only [nlit, nadd] at a2 a4
      rw [f_X3_extend_l21]
      simp (disch := omega) only [nlit, nleF, nmul, nadd, hs_g, hs_ldT, ↓reduceIte, Option.bind_some]
      rw [a2, f_X3_extend_l21]
      simp (disch := omega) only [nlit, Nat.zero_add, nleF, nmul, nadd, hs_g, hs_ldT, ↓reduceIte, Option.bind_some] at a4 ⊢
      rw [a4, f_X3_extend_l21]
      simp (disch := omega) only [nlit, nleT, nadd, ↓reduceIte]
    · rw [a5 m' e' he', a3 m' e' he']
      constructor
      · rintro ((h1 | ⟨h1, j, j1, j2, j3⟩) | ⟨h1, j, j1, j2, j3⟩)
        · exact Or.inl h1
        · rw [w1 j j1] at j2
          exact Or.inr ⟨h1, _, hR m _ (by omega) (by omega) j2, j2, j3⟩
        · rw [w2 j j1, w3 _ (by omega)] at j2
          exact Or.inr ⟨h1, _, hR m _ (by omega) (by omega) j2, j2, j3⟩
      · rintro (h1 | ⟨h1, e, e1, e2, e3⟩)
        · exact Or.inl (Or.inl h1)
        · by_cases h64 : e < 64
          · refine Or.inl (Or.inr ⟨h1, e, h64, ?_, by rw [Nat.mul_zero, Nat.zero_add]; exact e3⟩)
            rw [w1 e h64, Nat.mul_zero, Nat.zero_add]
            exact e2
          · refine Or.inr ⟨h1, e - 64, by omega, ?_, by rw [show 64 * 1 + (e - 64) = e by omega]; exact e3⟩
            rw [w2 _ (by omega), show 64 * 1 + (e - 64) = e by omega, w3 e (by omega)]
            exact e2
  obtain ⟨f, hf3⟩ : ∃ f, N = f + 1 + 1 + 1 := ⟨N - 3, by omega⟩
  obtain ⟨τ', k1, k2⟩ := key f
  refine ⟨τ', ?_, k2⟩
  rw [← hf3] at k1
  simp (disch := omega) only [f_X3_extend, a0, a1, nlit, nltT, eo, ↓reduceIte]
  exact k1
/-- all cards of one mask -/
theorem x_st25 {n k m : Nat} {G : Nat → Nat} {k1 : zH → Option zH} (hNN : 100 < N) (hn : inN n) (hk : k ≤ 8) (hm : m < 2 ^ k) (hC : ∀ c e, c < k → e < fctN n → C (c * 120 + e) = nI (mulN e (G c))) (hG : ∀ c, c < k → G c < fctN n) (hx : x = nI k) : ∀ (r c fuel : Nat) (τ : Nat → Int64), c + r = k → r < fuel → RngT n τ → ∃ τ' : Nat → Int64, f_X3_study_l25 N q (nI m) k1 fuel (nI c) (hset h q g x y C τ z F) = k1 (hset h q g x y C τ' z F) ∧ RngT n τ' ∧ ∀ m' e', e' < 128 → (AT τ' m' e' = true ↔ AT τ m' e' = true ∨ ∃ c' e, c ≤ c' ∧ c' < k ∧ bitN m c' = 0 ∧ e < fctN n ∧ AT τ m e = true ∧ m' = m + 2 ^ c' ∧ e' = mulN e (G c')) := by
  subst hx
  have hf := fct_le hn
  have p2 := pow2_le hk
  intro r
  induction r with
  | zero =>
    intro c fuel τ hc hfu hR
    obtain ⟨fuel, rfl⟩ : ∃ m, fuel = m + 1 := ⟨fuel - 1, by omega⟩
    refine ⟨τ, ?_, hR, fun m' e' he' => ⟨Or.inl, fun h1 => ?_⟩⟩
    · simp (disch := omega) only [f_X3_study_l25, hs_g, nleT, ↓reduceIte, Option.bind_some]
    · rcases h1 with h1 | ⟨c', e, c1, c2, -⟩
      · exact h1
      · omega
  | succ r ih =>
    intro c fuel τ hc hfu hR
    obtain ⟨fuel, rfl⟩ : ∃ m, fuel = m + 1 := ⟨fuel - 1, by omega⟩
    have ib := i_bit (show m < 256 by omega) (show c < 8 by omega)
    have ib' : (nI m >>> (nI c &&& nI 31)) &&& nI 1 = nI (bitN m c) := ib
    rcases bitN_01 m c with hb | hb
    · obtain ⟨τ1, a1, a2⟩ := x_extend (N := N) (h := h) (q := q) (g := g) (x := nI k) (y := y) (z := z) (F := F) hNN hn hk hm (show c < k by omega) hb (fun e he => hC c e (by omega) he) (hG c (by omega)) hR
      have hR1 : RngT n τ1 := by
        intro m' e' hm6 he' h1
        rcases (a2 m' e' he').mp h1 with h2 | ⟨-, e, e1, -, rfl⟩
        · exact hR m' e' hm6 he' h2
        · exact mul_in hn e1 (hG c (by omega))
      obtain ⟨τ2, a3, a4, a5⟩ := ih (c + 1) fuel τ1 (by omega) (by omega) hR1
      have hmw : m ≠ m + 2 ^ c := by have := Nat.two_pow_pos c; omega
      have w3 : ∀ e, e < 128 → (AT τ1 m e = true ↔ AT τ m e = true) := fun e he => by
        rw [a2 m e he]
        exact ⟨fun h9 => h9.elim id (fun h8 => absurd h8.1 hmw), Or.inl⟩
      refine ⟨τ2, ?_, a4, fun m' e' he' => ?_⟩
      · rw [← a3]
        simp (disch := omega) only [f_X3_study_l25, hs_g, hs_o3, zjn, nlit, ib', hb, nleF, neqT, nadd, ↓reduceIte, Option.bind_some] at a1 ⊢
        have e0 : ((nI 0 : Int32) = 0) = True := eq_true rfl
        simp only [e0, a1, ↓reduceIte, Option.bind_some]
      · rw [a5 m' e' he', a2 m' e' he']
        constructor
        · rintro ((h1 | ⟨h1, e, e1, e2, e3⟩) | ⟨c', e, c1, c2, c3, c4, c5, c6, c7⟩)
          · exact Or.inl h1
          · exact Or.inr ⟨c, e, Nat.le_refl c, by omega, hb, e1, e2, h1, e3⟩
          · exact Or.inr ⟨c', e, by omega, c2, c3, c4, (w3 e (by omega)).mp c5, c6, c7⟩
        · rintro (h1 | ⟨c', e, c1, c2, c3, c4, c5, c6, c7⟩)
          · exact Or.inl (Or.inl h1)
          · by_cases hcc : c' = c
            · subst hcc
              exact Or.inl (Or.inr ⟨c6, e, c4, c5, c7⟩)
            · exact Or.inr ⟨c', e, by omega, c2, c3, c4, (w3 e (by omega)).mpr c5, c6, c7⟩
    · obtain ⟨τ2, a3, a4, a5⟩ := ih (c + 1) fuel τ (by omega) (by omega) hR
      refine ⟨τ2, ?_, a4, fun m' e' he' => ?_⟩
      · rw [← a3]
        have e1 : ((nI 1 : Int32) = nI 0) = False := eq_false (by decide)
        simp (disch := omega) only [f_X3_study_l25, hs_g, hs_o3, zjn, nlit, ib', hb, nleF, e1, nadd, ↓reduceIte, Option.bind_some]
      · rw [a5 m' e' he']
        constructor
        · rintro (h1 | ⟨c', e, c1, c2⟩)
          · exact Or.inl h1
          · exact Or.inr ⟨c', e, by omega, c2⟩
        · rintro (h1 | ⟨c', e, c1, c2, c3, c4⟩)
          · exact Or.inl h1
          · have : c' ≠ c := fun h9 => by subst h9; omega
            exact Or.inr ⟨c', e, by omega, c2, c3, c4⟩
/-- all masks -/
theorem x_st14 {n k a : Nat} {G : Nat → Nat} (hNN : 100 < N) (hn : inN n) (hk : k ≤ 8) (ha : a < fctN n) (hC : ∀ c e, c < k → e < fctN n → C (c * 120 + e) = nI (mulN e (G c))) (hG : ∀ c, c < k → G c < fctN n) (hx : x = nI k) (hy : y = nI (2 ^ k)) : ∀ (r m fuel : Nat) (τ : Nat → Int64), m + r = 2 ^ k → r < fuel → RngT n τ → AT τ 0 a = true → Snd n k G 9 a (AT τ) → Cld n k G 9 m (AT τ) → ∃ τ' : Nat → Int64, f_X3_study_l14 N q fuel (nI m) (hset h q g x y C τ z F) = some (hset h q g x y C τ' z F) ∧ RngT n τ' ∧ AT τ' 0 a = true ∧ Snd n k G 9 a (AT τ') ∧ Cld n k G 9 (2 ^ k) (AT τ') := by
  subst hx
  subst hy
  have hf := fct_le hn
  have p2 := pow2_le hk
  intro r
  induction r with
  | zero =>
    intro m fuel τ hm hfu hR h0 hS hCl
    obtain ⟨fuel, rfl⟩ : ∃ m, fuel = m + 1 := ⟨fuel - 1, by omega⟩
    have hm' : m = 2 ^ k := by omega
    refine ⟨τ, ?_, hR, h0, hS, by rw [← hm']; exact hCl⟩
    simp (disch := omega) only [f_X3_study_l14, hs_g, nleT, ↓reduceIte, Option.bind_some]
  | succ r ih =>
    intro m fuel τ hm hfu hR h0 hS hCl
    obtain ⟨fuel, rfl⟩ : ∃ m, fuel = m + 1 := ⟨fuel - 1, by omega⟩
    obtain ⟨τ1, a1, a2, a3⟩ := x_st25 (N := N) (h := h) (q := q) (g := g) (x := nI k) (y := nI (2 ^ k)) (z := z) (F := F) (k1 := fun (h6 : zH) => f_X3_study_l14 N q fuel (nI m + (1 : Int32)) h6) hNN hn hk (show m < 2 ^ k by omega) hC hG rfl k 0 N τ (by omega) (by omega) hR
    have hE : Ext n k G 9 m (AT τ) (AT τ1) := by
      intro m' e' hm' he'
      rw [a3 m' e' (by omega)]
      constructor
      · rintro (h1 | ⟨c, e, -, c2, c3, c4, c5, c6, c7⟩)
        · exact Or.inl h1
        · exact Or.inr ⟨c, e, c2, by omega, c3, c4, c5, c6, c7⟩
      · rintro (h1 | ⟨c, e, c2, -, c3, c4, c5, c6, c7⟩)
        · exact Or.inl h1
        · exact Or.inr ⟨c, e, Nat.zero_le c, c2, c3, c4, c5, c6, c7⟩
    obtain ⟨b1, b2', b3⟩ := Ext_ok hk hn hG (show m < 2 ^ k by omega) hE ha h0 hS hCl
    obtain ⟨τ2, a4, a5⟩ := ih (m + 1) fuel τ1 (by omega) (by omega) a2 b1 b2' b3
    refine ⟨τ2, ?_, a5⟩
    rw [← a4]
    simp (disch := omega) only [nlit, nadd] at a1
    simp (disch := omega) only [f_X3_study_l14, hs_g, nlit, nleF, nadd, ↓reduceIte, Option.bind_some]
    exact a1
end M994

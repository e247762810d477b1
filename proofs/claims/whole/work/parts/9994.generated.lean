/-! ===== pairs: generated ===== -/
theorem php : ∀ (M c : Nat) (W : Nat → Nat), (∀ j, j < c → W j < M) → (∀ i j, i < c → j < c → W i = W j → i = j) → c ≤ M
  | 0, c, W, h1, _ => by
    rcases Nat.eq_zero_or_pos c with h | h
    · omega
    · exact absurd (h1 0 h) (Nat.not_lt_zero _)
  | M + 1, c, W, h1, h2 => by
    rcases Nat.eq_zero_or_pos c with h | h
    · omega
    · by_cases hx : ∃ i, i < c ∧ W i = M
      · obtain ⟨i, i1, i2⟩ := hx
        have := php M (c - 1) (fun j => if j = i then W (c - 1) else W j) (fun j hj => by
          by_cases hji : j = i
          · simp only [hji, ↓reduceIte]
            have a1 := h1 (c - 1) (by omega)
            have a2 : W (c - 1) ≠ M := fun h9 => by
              have := h2 (c - 1) i (by omega) i1 (h9.trans i2.symm)
              omega
            omega
          · simp only [hji, ↓reduceIte]
            have a1 := h1 j (by omega)
            have a2 : W j ≠ M := fun h9 => hji (h2 j i (by omega) i1 (h9.trans i2.symm))
            omega) (fun a b ha hb hab => by
          by_cases hai : a = i
          · by_cases hbi : b = i
            · omega
            · simp only [hai, hbi, ↓reduceIte] at hab
              have := h2 _ _ (by omega) (by omega) hab
              omega
          · by_cases hbi : b = i
            · simp only [hai, hbi, ↓reduceIte] at hab
              have := h2 _ _ (by omega) (by omega) hab
              omega
            · simp only [hai, hbi, ↓reduceIte] at hab
              exact h2 _ _ (by omega) (by omega) hab)
        omega
      · have := php M c W (fun j hj => by
          have a1 := h1 j hj
          have a2 : W j ≠ M := fun h9 => hx ⟨j, hj, h9⟩
          omega) h2
        omega
def memQ (s : (Nat → Nat) × Nat) (e : Nat) : Bool := anyR (fun j => Nat.beq (s.1 j) e) s.2 0
theorem memQ_iff {s : (Nat → Nat) × Nat} {e : Nat} : memQ s e = true ↔ ∃ j, j < s.2 ∧ s.1 j = e := by
  unfold memQ
  rw [anyR_iff]
  constructor
  · rintro ⟨j, h1, h2, h3⟩
    exact ⟨j, by omega, Nat.beq_eq ▸ h3⟩
  · rintro ⟨j, h1, h2⟩
    exact ⟨j, Nat.zero_le j, by omega, by rw [Nat.beq_eq]; exact h2⟩
def addQ (s : (Nat → Nat) × Nat) (e : Nat) : (Nat → Nat) × Nat := if memQ s e = true then s else (upN s.1 s.2 e, s.2 + 1)
def cardsQ (G : Nat → Nat) (i : Nat) : Nat → Nat → (Nat → Nat) × Nat → (Nat → Nat) × Nat
  | 0, _, s => s
  | r + 1, c, s => cardsQ G i r (c + 1) (addQ s (mulN (s.1 i) (G c)))
def genQ (k : Nat) (G : Nat → Nat) : Nat → Nat → (Nat → Nat) × Nat → (Nat → Nat) × Nat
  | 0, _, s => s
  | r + 1, i, s => if s.2 ≤ i then s else genQ k G r (i + 1) (cardsQ G i k 0 s)
def QOK (n : Nat) (s : (Nat → Nat) × Nat) : Prop := (∀ j, j < s.2 → s.1 j < fctN n) ∧ ∀ i j, i < s.2 → j < s.2 → s.1 i = s.1 j → i = j
theorem QOK_le {n : Nat} {s : (Nat → Nat) × Nat} (h : QOK n s) : s.2 ≤ fctN n := php _ _ _ h.1 h.2
theorem QOK_add {n e : Nat} {s : (Nat → Nat) × Nat} (h : QOK n s) (he : e < fctN n) : QOK n (addQ s e) := by
  unfold addQ
  split
  · exact h
  · next hm =>
    have hne : ∀ j, j < s.2 → s.1 j ≠ e := fun j hj h9 => hm (memQ_iff.mpr ⟨j, hj, h9⟩)
    refine ⟨fun j hj => ?_, fun i j hi hj hij => ?_⟩
    · show upN s.1 s.2 e j < _
      by_cases hjs : j = s.2
      · subst hjs; rw [upN_eq]; exact he
      · have hj' : j < s.2 + 1 := hj
        rw [upN_ne hjs]; exact h.1 j (by omega)
    · have hi' : i < s.2 + 1 := hi
      have hj' : j < s.2 + 1 := hj
      have hij' : upN s.1 s.2 e i = upN s.1 s.2 e j := hij
      by_cases his : i = s.2
      · by_cases hjs : j = s.2
        · omega
        · rw [his, upN_eq, upN_ne hjs] at hij'
          exact absurd hij'.symm (hne j (by omega))
      · by_cases hjs : j = s.2
        · rw [hjs, upN_eq, upN_ne his] at hij'
          exact absurd hij' (hne i (by omega))
        · rw [upN_ne his, upN_ne hjs] at hij'
          exact h.2 i j (by omega) (by omega) hij'
theorem addQ_old {s : (Nat → Nat) × Nat} {e i : Nat} (hi : i < s.2) : (addQ s e).1 i = s.1 i ∧ i < (addQ s e).2 := by
  unfold addQ
  split
  · exact ⟨rfl, hi⟩
  · exact ⟨upN_ne (by omega), Nat.lt_succ_of_lt hi⟩
theorem addQ_mem {s : (Nat → Nat) × Nat} {e f : Nat} : (∃ j, j < (addQ s e).2 ∧ (addQ s e).1 j = f) ↔ (∃ j, j < s.2 ∧ s.1 j = f) ∨ f = e := by
  unfold addQ
  split
  · next hm =>
    constructor
    · exact Or.inl
    · rintro (h1 | rfl)
      · exact h1
      · exact memQ_iff.mp hm
  · constructor
    · rintro ⟨j, h1, h2⟩
      have h1' : j < s.2 + 1 := h1
      have h2' : upN s.1 s.2 e j = f := h2
      by_cases hjs : j = s.2
      · rw [hjs, upN_eq] at h2'
        exact Or.inr h2'.symm
      · rw [upN_ne hjs] at h2'
        exact Or.inl ⟨j, by omega, h2'⟩
    · rintro (⟨j, h1, h2⟩ | rfl)
      · exact ⟨j, Nat.lt_succ_of_lt h1, (upN_ne (by omega)).trans h2⟩
      · exact ⟨s.2, Nat.lt_succ_self _, upN_eq _ _ _⟩
def GenX (s : (Nat → Nat) × Nat) (τ : Nat → Int64) (z : Int32) (F : Nat → Int32) : Prop := z = nI s.2 ∧ (∀ j, j < s.2 → F j = nI (s.1 j)) ∧ ∀ e, e < 128 → (AT τ 256 e = true ↔ ∃ j, j < s.2 ∧ s.1 j = e)
section M9994
variable {h : zH} {b0 N k : Nat} {z : Int32} {C F : Nat → Int32} {τ : Nat → Int64}
theorem x_find {n e : Nat} {s : (Nat → Nat) × Nat} (hn : inN n) (he : e < fctN n) (hQ : QOK n s) (hR : GenX s τ z F) : ∃ (τ' : Nat → Int64) (z' : Int32) (F' : Nat → Int32), f_X3_find N (b0 + 390) (nI e) (hset h (b0 + 390) (b0 + 1) (nI k) (nI (2 ^ k)) C τ z F) = some (hset h (b0 + 390) (b0 + 1) (nI k) (nI (2 ^ k)) C τ' z' F') ∧ GenX (addQ s e) τ' z' F' := by
  have hf := fct_le hn
  obtain ⟨r1, r2, r3⟩ := hR
  have ql := QOK_le hQ
  have c1 := x_contains (N := N) (h := h) (q := b0 + 390) (g := b0 + 1) (x := nI k) (y := nI (2 ^ k)) (C := C) (τ := τ) (z := z) (F := F) (m := 256) (e := e) (by omega) (by omega)
  have e0 : ((nI 1 : Int32) = nI 0) = False := eq_false (by decide)
  by_cases hm : memQ s e = true
  · have ha : AT τ 256 e = true := (r3 e (by omega)).mpr (memQ_iff.mp hm)
    refine ⟨τ, z, F, ?_, ?_⟩
    · rw [ha] at c1
      simp (disch := omega) only [f_X3_find, nlit, hs_o3, c1, b2_t', e0, ↓reduceIte, Option.bind_some]
    · unfold addQ
      rw [if_pos hm]
      exact ⟨r1, r2, r3⟩
  · have ha : AT τ 256 e = false := by
      cases hx : AT τ 256 e with
      | false => rfl
      | true => exact absurd (memQ_iff.mpr ((r3 e (by omega)).mp hx)) hm
    have qa := QOK_le (QOK_add hQ he)
    have ea : addQ s e = (upN s.1 s.2 e, s.2 + 1) := by unfold addQ; rw [if_neg hm]
    rw [ea] at qa ⊢
    have qa' : s.2 + 1 ≤ fctN n := qa
    have c2 := x_include (N := N) (h := h) (q := b0 + 390) (g := b0 + 1) (x := nI k) (y := nI (2 ^ k)) (C := C) (τ := τ) (z := z) (F := F) (m := 256) (e := e) (by omega) (by omega)
    refine ⟨incT τ 256 e, nI (s.2 + 1), upd F s.2 (nI e), ?_, rfl, fun j hj => ?_, fun f hf' => ?_⟩
    · rw [ha] at c1
      subst r1
      simp (disch := omega) only [f_X3_find, f_X6_push, nlit, hs_o3, hs_o6, hs_g, c1, c2, b2_f', hs_lenF, hs_stF, hs_pz, nltF, nleF, nadd, neqT, ↓reduceIte, Option.bind_some]
    · have hj' : j < s.2 + 1 := hj
      show upd F s.2 (nI e) j = nI (upN s.1 s.2 e j)
      by_cases hjs : j = s.2
      · subst hjs; rw [upS_eq, upN_eq]
      · rw [upS_ne hjs, upN_ne hjs]; exact r2 j (by omega)
    · rw [AT_inc (by omega) hf', r3 f hf']
      have := addQ_mem (s := s) (e := e) (f := f)
      rw [ea] at this
      rw [this]
      constructor
      · rintro (h1 | ⟨-, h1⟩)
        · exact Or.inl h1
        · exact Or.inr h1
      · rintro (h1 | h1)
        · exact Or.inl h1
        · exact Or.inr ⟨rfl, h1⟩
theorem x_gen40 {n i : Nat} {G : Nat → Nat} {k1 : zH → Option (Int32 × zH)} (hn : inN n) (hk : k ≤ 8) (hC : ∀ c e, c < k → e < fctN n → C (c * 120 + e) = nI (mulN e (G c))) (hG : ∀ c, c < k → G c < fctN n) : ∀ (r c fuel : Nat) (s : (Nat → Nat) × Nat) (τ : Nat → Int64) (z : Int32) (F : Nat → Int32), c + r = k → r < fuel → i < s.2 → QOK n s → GenX s τ z F → ∃ (τ' : Nat → Int64) (z' : Int32) (F' : Nat → Int32), f_X3_countGenerated_l40 N (b0 + 390) (nI i) k1 fuel (nI c) (hset h (b0 + 390) (b0 + 1) (nI k) (nI (2 ^ k)) C τ z F) = k1 (hset h (b0 + 390) (b0 + 1) (nI k) (nI (2 ^ k)) C τ' z' F') ∧ GenX (cardsQ G i r c s) τ' z' F' ∧ QOK n (cardsQ G i r c s) := by
  have hf := fct_le hn
  intro r
  induction r with
  | zero =>
    intro c fuel s τ z F hc hfu hi hQ hR
    obtain ⟨fuel, rfl⟩ : ∃ m, fuel = m + 1 := ⟨fuel - 1, by omega⟩
    refine ⟨τ, z, F, ?_, hR, hQ⟩
    simp (disch := omega) only [f_X3_countGenerated_l40, hs_g, nleT, ↓reduceIte, Option.bind_some]
  | succ r ih =>
    intro c fuel s τ z F hc hfu hi hQ hR
    obtain ⟨fuel, rfl⟩ : ∃ m, fuel = m + 1 := ⟨fuel - 1, by omega⟩
    have ql := QOK_le hQ
    have wi := hQ.1 i hi
    have gc := hG c (by omega)
    have mi := mul_in hn wi gc
    have q1 := x_timesCard (N := N) (h := h) (q := b0 + 390) (g := b0 + 1) (x := nI k) (y := nI (2 ^ k)) (C := C) (τ := τ) (z := z) (F := F) (e := s.1 i) (c := c) (by omega) (by omega)
    rw [hC c _ (by omega) wi] at q1
    obtain ⟨τ1, z1, F1, f1, f2⟩ := x_find (N := N) (h := h) (b0 := b0) (k := k) (C := C) hn mi hQ hR
    have ao := addQ_old (s := s) (e := mulN (s.1 i) (G c)) hi
    obtain ⟨τ2, z2, F2, i1, i2⟩ := ih (c + 1) fuel (addQ s (mulN (s.1 i) (G c))) τ1 z1 F1 (by omega) (by omega) ao.2 (QOK_add hQ mi) f2
    refine ⟨τ2, z2, F2, ?_, i2⟩
    rw [← i1]
    obtain ⟨r1, r2, r3⟩ := hR
    subst r1
    have hFi := r2 i hi
    have e0 : ((nI 1 : Int32) = nI 0) = False := eq_false (by decide)
    simp (disch := omega) only [f_X3_countGenerated_l40, f_X6_at, f_X6_holds, nlit, hs_g, hs_o6, hs_o3, nleF, nltF, hs_lenF, hs_ldF, hFi, e0, q1, f1, nadd, ↓reduceIte, Option.bind_some]
theorem x_gen20 {n : Nat} {G : Nat → Nat} {k1 : zH → Option (Int32 × zH)} (hNN : 100 < N) (hn : inN n) (hk : k ≤ 8) (hC : ∀ c e, c < k → e < fctN n → C (c * 120 + e) = nI (mulN e (G c))) (hG : ∀ c, c < k → G c < fctN n) : ∀ (r i fuel : Nat) (s : (Nat → Nat) × Nat) (τ : Nat → Int64) (z : Int32) (F : Nat → Int32), i + r = 120 → r < fuel → QOK n s → GenX s τ z F → ∃ (τ' : Nat → Int64) (z' : Int32) (F' : Nat → Int32), f_X3_countGenerated_l20 N (b0 + 390) k1 fuel (nI i) (hset h (b0 + 390) (b0 + 1) (nI k) (nI (2 ^ k)) C τ z F) = k1 (hset h (b0 + 390) (b0 + 1) (nI k) (nI (2 ^ k)) C τ' z' F') ∧ GenX (genQ k G r i s) τ' z' F' ∧ QOK n (genQ k G r i s) := by
  have hf := fct_le hn
  intro r
  induction r with
  | zero =>
    intro i fuel s τ z F hi hfu hQ hR
    obtain ⟨fuel, rfl⟩ : ∃ m, fuel = m + 1 := ⟨fuel - 1, by omega⟩
    refine ⟨τ, z, F, ?_, hR, hQ⟩
    simp (disch := omega) only [f_X3_countGenerated_l20, nlit, nleT, ↓reduceIte]
  | succ r ih =>
    intro i fuel s τ z F hi hfu hQ hR
    obtain ⟨fuel, rfl⟩ : ∃ m, fuel = m + 1 := ⟨fuel - 1, by omega⟩
    have ql := QOK_le hQ
    have eg : genQ k G (r + 1) i s = if s.2 ≤ i then s else genQ k G r (i + 1) (cardsQ G i k 0 s) := rfl
    have r1 := hR.1
    subst r1
    by_cases hsi : s.2 ≤ i
    · rw [eg, if_pos hsi]
      refine ⟨τ, _, F, ?_, hR, hQ⟩
      simp (disch := omega) only [f_X3_countGenerated_l20, f_X6_size, nlit, nleF, nleT, hs_g, hs_o6, ↓reduceIte, Option.bind_some]
    · rw [eg, if_neg hsi]
      obtain ⟨τ1, z1, F1, f1, f2, f3⟩ := x_gen40 (N := N) (h := h) (b0 := b0) (i := i) (k1 := fun (h12 : zH) => f_X3_countGenerated_l20 N (b0 + 390) k1 fuel (nI i + (1 : Int32)) h12) hn hk hC hG k 0 N s τ (nI s.2) F (by omega) (by omega) (by omega) hQ hR
      obtain ⟨τ2, z2, F2, i1, i2⟩ := ih (i + 1) fuel (cardsQ G i k 0 s) τ1 z1 F1 (by omega) (by omega) f3 f2
      refine ⟨τ2, z2, F2, ?_, i2⟩
      rw [← i1]
      simp (disch := omega) only [nlit, nadd] at f1
      simp (disch := omega) only [f_X3_countGenerated_l20, f_X6_size, nlit, nleF, hs_g, hs_o6, nadd, ↓reduceIte, Option.bind_some]
      exact f1
end M9994
section M9994m
variable {h : zH} {m N : Nat} {S B E : Nat → Int32} {H : Nat → Nat → Int32} {J : Nat → Int64} {L U Z W : Nat → Int32} {d : Nat → Nat}
def GenM (n : Nat) (s : (Nat → Nat) × Nat) (Z W : Nat → Int32) : Prop := (∀ j, j < s.2 → W j = nI (numN n (s.1 j))) ∧ ∀ e, e < fctN n → (¬ Z (piN n e) = nI 0 ↔ ∃ j, j < s.2 ∧ s.1 j = e)
theorem m_gclr {v1 : Int32} {k1 : zH → Option (Int32 × zH)} : ∀ (r i fuel : Nat), i + r = 120 → r < fuel → f_X9_generated_l21 N m v1 k1 fuel (nI i) (mset h m S B (dI d) E H J L U (clrZ Z i) W) = k1 (mset h m S B (dI d) E H J L U (clrZ Z 120) W) := by
  intro r
  induction r with
  | zero =>
    intro i fuel hi hf
    obtain ⟨fuel, rfl⟩ : ∃ m, fuel = m + 1 := ⟨fuel - 1, by omega⟩
    have : i = 120 := by omega
    subst this
    simp (disch := omega) only [f_X9_generated_l21, nlit, nltT, nltF, nleT, nleF, neqT, neqF, nadd, nmul, nsub, ↓reduceIte, Option.bind_some, onO_ms, gI_ms, gA_ms, pF_ms, ldI_ms, stI_ms, dI_app, updI, upN_eq, upN_ne, Nat.add_zero, Nat.zero_add]
  | succ r ih =>
    intro i fuel hi hf
    obtain ⟨fuel, rfl⟩ : ∃ m, fuel = m + 1 := ⟨fuel - 1, by omega⟩
    rw [← ih (i + 1) fuel (by omega) (by omega), ← clrZ_step]
    simp (disch := omega) only [f_X9_generated_l21, sZ0, nlit, nltT, nltF, nleT, nleF, neqT, neqF, nadd, nmul, nsub, ↓reduceIte, Option.bind_some, onO_ms, gI_ms, gA_ms, pF_ms, ldI_ms, stI_ms, dI_app, updI, upN_eq, upN_ne, Nat.add_zero, Nat.zero_add]
theorem m_gen82 {p i : Nat} {k1 : Int32 → zH → Option (Int32 × zH)} (hNN : 100 < N) (hD : GoodD d) (hp : p < d 1) (h20 : S 20 = nI (d 0)) (hL : LaidT (d 0) L U) : ∀ (r c fuel : Nat) (s : (Nat → Nat) × Nat) (Z W : Nat → Int32), c + r = d (11 + 19 * p + 1) → r < fuel → i < s.2 → QOK (d 0) s → GenM (d 0) s Z W → ∃ Z' W' : Nat → Int32, f_X9_generated_l82 N m (nI p) (nI i) k1 fuel (nI s.2) (nI c) (mset h m S B (dI d) E H J L U Z W) = k1 (nI (cardsQ (cardG d p) i r c s).2) (mset h m S B (dI d) E H J L U Z' W') ∧ GenM (d 0) (cardsQ (cardG d p) i r c s) Z' W' := by
  obtain ⟨⟨g0, g1, g2, g3, g4, g5, g7⟩, gb, gl, gp, gm⟩ := id hD
  obtain ⟨p8, pw', pc⟩ := gp p hp
  have hp5 : p < 5 := by omega
  have hf := fct_le g0
  intro r
  induction r with
  | zero =>
    intro c fuel s Z W hc hfu hi hQ hR
    obtain ⟨fuel, rfl⟩ : ∃ m, fuel = m + 1 := ⟨fuel - 1, by omega⟩
    refine ⟨Z, W, ?_, hR⟩
    simp (disch := omega) only [f_X9_generated_l82, m_cardsOf, nlit, nltT, nltF, nleT, nleF, neqT, neqF, nadd, nmul, nsub, ↓reduceIte, Option.bind_some, onO_ms, gI_ms, gA_ms, pF_ms, ldI_ms, stI_ms, dI_app, updI, upN_eq, upN_ne, Nat.add_zero, Nat.zero_add]
    rfl
  | succ r ih =>
    intro c fuel s Z W hc hfu hi hQ hR
    obtain ⟨fuel, rfl⟩ : ∃ m, fuel = m + 1 := ⟨fuel - 1, by omega⟩
    have ql := QOK_le hQ
    have wi := hQ.1 i hi
    have hcc : c < d (11 + 19 * p + 1) := by omega
    obtain ⟨i1', i2'⟩ := isN_idx g0 (pc c hcc).1
    have n0 : d (11 + 19 * p + 3 + 2 * c) = numN (d 0) (cardG d p c) := i2'
    have gc : cardG d p c < fctN (d 0) := i1'
    have mi := mul_in g0 wi gc
    have nb := (num_bd g0 mi).2
    have lt1 := (hL _ mi).1
    have pl := pi_lt g0 mi
    have n1 := m_elementOf (N := N) (h := h) (m := m) (S := S) (B := B) (E := E) (H := H) (J := J) (L := L) (U := U) (Z := Z) (W := W) (d := d) hp5 (show c < 8 by omega)
    have n2 := m_times (N := N) (h := mset h m S B (dI d) E H J L U Z W) (by omega) g0 wi gc
    have hWi := hR.1 i hi
    have ao := addQ_old (s := s) (e := mulN (s.1 i) (cardG d p c)) hi
    have qa := QOK_add hQ mi
    have ec : cardsQ (cardG d p) i (r + 1) c s = cardsQ (cardG d p) i r (c + 1) (addQ s (mulN (s.1 i) (cardG d p c))) := rfl
    rw [ec]
    by_cases hz : Z (piN (d 0) (mulN (s.1 i) (cardG d p c))) = nI 0
    · have hm : ¬ memQ s (mulN (s.1 i) (cardG d p c)) = true := fun h9 => ((hR.2 _ mi).mpr (memQ_iff.mp h9)) hz
      have ea : addQ s (mulN (s.1 i) (cardG d p c)) = (upN s.1 s.2 (mulN (s.1 i) (cardG d p c)), s.2 + 1) := by unfold addQ; rw [if_neg hm]
      have qa' := QOK_le qa
      rw [ea] at qa'
      have qa2 : s.2 + 1 ≤ fctN (d 0) := qa'
      obtain ⟨Z', W', j1, j2⟩ := ih (c + 1) fuel (addQ s (mulN (s.1 i) (cardG d p c))) (upd Z (piN (d 0) (mulN (s.1 i) (cardG d p c))) (nI 1)) (upd W s.2 (nI (numN (d 0) (mulN (s.1 i) (cardG d p c))))) (by omega) (by omega) ao.2 qa (by
        refine ⟨fun j hj => ?_, fun e he => ?_⟩
        · rw [ea] at hj ⊢
          have hj' : j < s.2 + 1 := hj
          show upd W s.2 _ j = nI (numN (d 0) (upN s.1 s.2 _ j))
          by_cases hjs : j = s.2
          · subst hjs; rw [upS_eq, upN_eq]
          · rw [upS_ne hjs, upN_ne hjs]; exact hR.1 j (by omega)
        · rw [addQ_mem, ← hR.2 e he]
          by_cases hee : e = mulN (s.1 i) (cardG d p c)
          · subst hee
            rw [upS_eq]
            exact ⟨fun _ => Or.inr rfl, fun _ => by decide⟩
          · rw [upS_ne (fun h9 => hee (pi_inj g0 he mi h9))]
            exact ⟨Or.inl, fun h9 => h9.elim id (fun h8 => absurd h8 hee)⟩)
      refine ⟨Z', W', ?_, j2⟩
      rw [← j1]
      have e2 : (addQ s (mulN (s.1 i) (cardG d p c))).2 = s.2 + 1 := by rw [ea]
      rw [e2]
      have hzt : (Z (piN (d 0) (mulN (s.1 i) (cardG d p c))) = nI 0) = True := eq_true hz
      simp (disch := omega) only [f_X9_generated_l82, m_cardsOf, hWi, n1, n0, h20, n2, lt1, ldZ_ms, hzt, sZ1, zjn, nlit, nltT, nltF, nleT, nleF, neqT, neqF, nadd, nmul, nsub, ↓reduceIte, Option.bind_some, onO_ms, gI_ms, gA_ms, pF_ms, ldI_ms, stI_ms, dI_app, updI, upN_eq, upN_ne, Nat.add_zero, Nat.zero_add]
    · have hm : memQ s (mulN (s.1 i) (cardG d p c)) = true := memQ_iff.mpr ((hR.2 _ mi).mp hz)
      have ea : addQ s (mulN (s.1 i) (cardG d p c)) = s := by unfold addQ; rw [if_pos hm]
      rw [ea]
      obtain ⟨Z', W', j1, j2⟩ := ih (c + 1) fuel s Z W (by omega) (by omega) hi hQ hR
      refine ⟨Z', W', ?_, j2⟩
      rw [← j1]
      have hzt : (Z (piN (d 0) (mulN (s.1 i) (cardG d p c))) = nI 0) = False := eq_false hz
      simp (disch := omega) only [f_X9_generated_l82, m_cardsOf, hWi, n1, n0, h20, n2, lt1, ldZ_ms, hzt, zjn, nlit, nltT, nltF, nleT, nleF, neqT, neqF, nadd, nmul, nsub, ↓reduceIte, Option.bind_some, onO_ms, gI_ms, gA_ms, pF_ms, ldI_ms, stI_ms, dI_app, updI, upN_eq, upN_ne, Nat.add_zero, Nat.zero_add]
theorem cardsQ_ok {n i k : Nat} {G : Nat → Nat} (hn : inN n) (hG : ∀ c, c < k → G c < fctN n) : ∀ (r c : Nat) (s : (Nat → Nat) × Nat), c + r ≤ k → i < s.2 → QOK n s → QOK n (cardsQ G i r c s)
  | 0, _, _, _, _, h => h
  | r + 1, c, s, hc, hi, h => cardsQ_ok hn hG r (c + 1) _ (by omega) (addQ_old hi).2 (QOK_add h (mul_in hn (h.1 i hi) (hG c (by omega))))
theorem m_gen74 {p : Nat} (hNN : 1000 < N) (hD : GoodD d) (hp : p < d 1) (h20 : S 20 = nI (d 0)) (hL : LaidT (d 0) L U) : ∀ (r i fuel : Nat) (s : (Nat → Nat) × Nat) (Z W : Nat → Int32), i + r = 120 → r < fuel → QOK (d 0) s → GenM (d 0) s Z W → ∃ Z' W' : Nat → Int32, f_X9_generated_l74 N m (nI p) fuel (nI s.2) (nI i) (mset h m S B (dI d) E H J L U Z W) = some (nI (genQ (d (11 + 19 * p + 1)) (cardG d p) r i s).2, mset h m S B (dI d) E H J L U Z' W') := by
  obtain ⟨⟨g0, g1, g2, g3, g4, g5, g7⟩, gb, gl, gp, gm⟩ := id hD
  obtain ⟨p8, pw', pc⟩ := gp p hp
  have hf := fct_le g0
  have hGc : ∀ c, c < d (11 + 19 * p + 1) → cardG d p c < fctN (d 0) := fun c hc => (isN_idx g0 (pc c hc).1).1
  intro r
  induction r with
  | zero =>
    intro i fuel s Z W hi hfu hQ hR
    obtain ⟨fuel, rfl⟩ : ∃ m, fuel = m + 1 := ⟨fuel - 1, by omega⟩
    have ql := QOK_le hQ
    refine ⟨Z, W, ?_⟩
    simp (disch := omega) only [f_X9_generated_l74, nleT, ↓reduceIte]
    rfl
  | succ r ih =>
    intro i fuel s Z W hi hfu hQ hR
    obtain ⟨fuel, rfl⟩ : ∃ m, fuel = m + 1 := ⟨fuel - 1, by omega⟩
    have ql := QOK_le hQ
    have eg : genQ (d (11 + 19 * p + 1)) (cardG d p) (r + 1) i s = if s.2 ≤ i then s else genQ (d (11 + 19 * p + 1)) (cardG d p) r (i + 1) (cardsQ (cardG d p) i (d (11 + 19 * p + 1)) 0 s) := rfl
    rw [eg]
    by_cases hsi : s.2 ≤ i
    · rw [if_pos hsi]
      refine ⟨Z, W, ?_⟩
      simp (disch := omega) only [f_X9_generated_l74, nleT, ↓reduceIte]
    · rw [if_neg hsi]
      obtain ⟨Z1, W1, a1, a2⟩ := m_gen82 (N := N) (h := h) (m := m) (S := S) (B := B) (E := E) (H := H) (J := J) (L := L) (U := U) (d := d) (p := p) (i := i) (k1 := fun (u33 : Int32) (h34 : zH) => f_X9_generated_l74 N m (nI p) fuel u33 (nI i + (1 : Int32)) h34) (by omega) hD hp h20 hL (d (11 + 19 * p + 1)) 0 N s Z W (by omega) (by omega) (by omega) hQ hR
      obtain ⟨Z2, W2, i1⟩ := ih (i + 1) fuel (cardsQ (cardG d p) i (d (11 + 19 * p + 1)) 0 s) Z1 W1 (by omega) (by omega) (cardsQ_ok g0 hGc _ _ _ (by omega) (by omega) hQ) a2
      refine ⟨Z2, W2, ?_⟩
      rw [← i1]
      simp (disch := omega) only [nlit, nadd] at a1
      simp (disch := omega) only [f_X9_generated_l74, nlit, nleF, nadd, ↓reduceIte]
      exact a1
end M9994m
section M9994p
variable {h h' h1 : zH} {b0 K N q z : Nat} {ea : Int32} {d : Nat → Nat} {t : Nat → Nat} {hd : Nat → Nat → Nat} {hK : Nat → Nat} {ht : Nat → Nat → Nat} {B : Nat → Int32}
def startQ : (Nat → Nat) × Nat := (upN (fun _ => 0) 0 0, 1)
theorem startQ_ok {n : Nat} (hn : inN n) : QOK n startQ := ⟨fun j _ => by
  have := fct_pos hn
  show upN (fun _ => 0) 0 0 j < _
  unfold upN
  split
  · omega
  · show 0 < _
    omega, fun i j hi hj _ => by
  have hi' : i < 1 := hi
  have hj' : j < 1 := hj
  omega⟩
theorem PR_generated (hNN : 54400 < N) (hW : WC b0 h (d, K, t, (q, hd, hK, ht), ea, z, B)) (x : Int32) : PairT b0 (f_X8_generated N b0 x) (f_X9_generated N (b0 + 395) x) cRc h (d, K, t, (q, hd, hK, ht), ea, z, B) := by
  obtain ⟨⟨⟨hGo, hG, hS0⟩, hBr⟩, ⟨hA, hD, hC⟩, hH, hHG⟩ := id hW
  obtain ⟨⟨g0, g1, g2, g3, g4, g5, g7⟩, gb, gl, gp, gm⟩ := id hD
  have hGo : Gob b0 h ea := hGo
  have kT := w_T hD hA
  have kA := w_A hD hA
  have e2 : (nI 1 = nI 0) = False := eq_false (by decide)
  have hq8 : q ≤ 8 := by obtain ⟨o, -, h9, -⟩ := hH; exact h9
  have h1f := Nat.lt_trans Nat.zero_lt_one (fct_pos g0)
  have f8 := fct_le g0
  obtain ⟨xx, yy, czz, A0, F0, τ0, hsf⟩ := Han_self hBr.2.1
  have o3 : ∀ G : Option zH, onO 3 (b0 + 390) h G = G := fun G => by rw [← hsf]; exact hs_o3
  have o3i : ∀ G : Option (Int32 × zH), onO 3 (b0 + 390) h G = G := fun G => by rw [← hsf]; exact hs_o3
  rcases inP_cases x (d 1) with ⟨p, hp, rfl⟩ | ⟨hx, -⟩
  · obtain ⟨p8, pw', pc⟩ := gp p hp
    have hp5 : p < 5 := by omega
    have p2 := pow2_le p8
    have k1 := w_existing (N := N) hGo hD hA hp
    obtain ⟨C', st, sC⟩ := x_takeHand (N := N) (p := p) (x := xx) (y := yy) (z := czz) (C := A0) (F := F0) (τ := τ0) (by omega) hG hD hA hp
    rw [hsf] at st
    have hGc : ∀ c, c < d (11 + 19 * p + 1) → cardG d p c < fctN (d 0) := fun c hc => (isN_idx g0 (pc c hc).1).1
    have gx0 : GenX ((fun _ => 0), 0) (zT τ0 514) (nI 0) F0 := ⟨rfl, fun j hj => absurd hj (Nat.not_lt_zero j), fun e he => by
      rw [AT_zT (by omega) he]
      exact ⟨fun h9 => (by cases h9), fun ⟨j, hj, _⟩ => absurd hj (Nat.not_lt_zero j)⟩⟩
    have q0 : QOK (d 0) ((fun _ => 0), 0) := ⟨fun j hj => absurd hj (Nat.not_lt_zero j), fun i j hi => absurd hi (Nat.not_lt_zero i)⟩
    obtain ⟨τ1, z1, F1, f1, f2⟩ := x_find (N := N) (h := h) (b0 := b0) (k := d (11 + 19 * p + 1)) (C := C') (e := 0) g0 h1f q0 gx0
    have es : addQ ((fun _ => 0), 0) 0 = startQ := rfl
    rw [es] at f2
    obtain ⟨τ2, z2, F2, f3, f4, f5⟩ := x_gen20 (N := N) (h := h) (b0 := b0) (k := d (11 + 19 * p + 1)) (C := C') (G := cardG d p) (k1 := fun (h13 : zH) => (gA h13 (b0 + 390) 3 3).bind fun x14 => (onO 6 x14 h13 (f_X6_size N x14 h13)).bind fun y15 => some (y15.1, y15.2)) (by omega) g0 p8 sC hGc 120 0 N startQ τ1 z1 F1 (by omega) (by omega) (startQ_ok g0) f2
    refine P_hand (v := nI (genQ (d (11 + 19 * p + 1)) (cardG d p) 120 0 startQ).2) g0 hW (x := nI (d (11 + 19 * p + 1))) (y := nI (2 ^ d (11 + 19 * p + 1))) (A := C') (τ := τ2) (cz := z2) (F := F2) ?_ (fun h2 S B1 E H J L U Z W hL => ?_)
    · have r1 := f4.1
      have f6 : f_X3_countGenerated N (b0 + 390) (b0 + 46 + (2 + 5 * p)) (nI (d 0)) h = some (nI (genQ (d (11 + 19 * p + 1)) (cardG d p) 120 0 startQ).2, hset h (b0 + 390) (b0 + 1) (nI (d (11 + 19 * p + 1))) (nI (2 ^ d (11 + 19 * p + 1))) C' τ2 z2 F2) := by
        simp only [f_X3_countGenerated, f_X6_clear, o3, st, hs_g, hs_o6, hs_o3, hs_pz, nlit, f1, Option.bind_some]
        refine Eq.trans f3 ?_
        simp only [f_X6_size, hs_g, hs_o6, r1, Option.bind_some]
      simp only [f_X8_generated, w_g4 hGo, w_o8 hGo, k1, w_g2 hGo, kT, o3i, f6, zth, Option.bind_some]
    · have n1 := m_noPlayer (N := N) (h := h2) (m := b0 + 395) (B := B1) (E := E) (H := H) (J := J) (L := L) (U := U) (Z := Z) (W := W) (S := upd S 0 (nI 0)) (x := nI p) (by omega) (upS_eq _ _ _) ⟨p, hp, rfl⟩
      obtain ⟨L', U', l1, l2⟩ := m_layGroup (N := N) (h := h2) (m := b0 + 395) (B := B1) (E := E) (H := H) (J := J) (L := L) (U := U) (Z := Z) (W := W) (S := upd S 0 (nI 0)) (d := d) hNN g0 (by rw [upS_ne (by omega), upS_ne (by omega)]; exact hL)
      have e0 : clrZ Z 0 = Z := funext fun j => if_neg (Nat.not_lt_zero j)
      have c1 := fun k1 => m_gclr (N := N) (h := h2) (m := b0 + 395) (S := upd (upd (upd S 0 (nI 0)) 20 (nI (d 0))) 19 (nI (fctN (d 0)))) (B := B1) (d := d) (E := E) (H := H) (J := J) (L := L') (U := U') (Z := Z) (W := W) (v1 := nI p) (k1 := k1) 120 0 N (by omega) (by omega)
      rw [e0] at c1
      have pl := pi_lt g0 h1f
      have nb := (num_bd g0 h1f).2
      have lt1 := (l2 0 h1f).1
      obtain ⟨Z', W', r1⟩ := m_gen74 (N := N) (h := h2) (m := b0 + 395) (B := B1) (E := E) (H := H) (J := J) (L := L') (U := U') (S := upd (upd (upd S 0 (nI 0)) 20 (nI (d 0))) 19 (nI (fctN (d 0)))) (p := p) (by omega) hD hp (by rw [upS_ne (by omega), upS_eq]) l2 120 0 N startQ (upd (clrZ Z 120) (piN (d 0) 0) (nI 1)) (upd W 0 (nI (numN (d 0) 0))) (by omega) (by omega) (startQ_ok g0) (by
        refine ⟨fun j hj => ?_, fun e he => ?_⟩
        · have hj' : j < 1 := hj
          have : j = 0 := by omega
          subst this
          rw [upS_eq]
          rfl
        · by_cases hee : e = 0
          · subst hee
            rw [upS_eq]
            exact ⟨fun _ => ⟨0, Nat.lt_succ_self 0, rfl⟩, fun _ => by decide⟩
          · rw [upS_ne (fun h9 => hee (pi_inj g0 he h1f h9))]
            have := pi_lt g0 he
            unfold clrZ
            rw [if_pos (by omega)]
            constructor
            · intro h9; exact absurd rfl h9
            · rintro ⟨j, hj, h9⟩
              have hj' : j < 1 := hj
              have : j = 0 := by omega
              subst this
              exact absurd h9.symm hee)
      refine ⟨L', U', Z', W', ?_, l2⟩
      have n2 := fun (Z W : Nat → Int32) => m_neutral (N := N) (h := mset h2 (b0 + 395) (upd (upd (upd S 0 (nI 0)) 20 (nI (d 0))) 19 (nI (fctN (d 0)))) B1 (dI d) E H J L' U' Z W) g0
      have e20 : (upd (upd (upd S 0 (nI 0)) 20 (nI (d 0))) 19 (nI (fctN (d 0)))) 20 = nI (d 0) := by rw [upS_ne (by omega), upS_eq]
      refine Eq.trans ?_ r1
      simp (disch := omega) only [f_X9_generated, n1, l1, c1, nlit, nlit, nltT, nltF, nleT, nleF, neqT, neqF, nadd, nmul, nsub, ↓reduceIte, Option.bind_some, onO_ms, gI_ms, gA_ms, pF_ms, ldI_ms, stI_ms, dI_app, updI, upN_eq, upN_ne, Nat.add_zero, Nat.zero_add]
      simp (disch := omega) only [n2, e20, lt1, upS_eq, upS_ne, sZ1, nlit, nlit, nltT, nltF, nleT, nleF, neqT, neqF, nadd, nmul, nsub, ↓reduceIte, Option.bind_some, onO_ms, gI_ms, gA_ms, pF_ms, ldI_ms, stI_ms, dI_app, updI, upN_eq, upN_ne, Nat.add_zero, Nat.zero_add]
      rfl
  · have k1 := w_nexisting (N := N) hGo hD hA hx
    refine P_thr (k := 2) (c := 1) hW ?_ rfl (by omega) (by omega) (fun h2 S B1 E H J L U Z W => m_generated_p (by omega) hx)
    simp only [f_X8_generated, w_g4 hGo, w_o8 hGo, k1, zth, Option.bind_some]
end M9994p

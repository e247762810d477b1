/-! ===== the model lays what is reached ===== -/
def AZ (Z : Nat → Int32) (n m e : Nat) : Bool := decide (¬ Z (120 * m + piN n e) = nI 0)
def clrZ (Z : Nat → Int32) (i : Nat) : Nat → Int32 := fun j => if j < i then nI 0 else Z j
theorem clrZ_step (Z : Nat → Int32) (i : Nat) : upd (clrZ Z i) i (nI 0) = clrZ Z (i + 1) := by
  funext j
  unfold clrZ
  by_cases hj : j = i
  · subst hj
    rw [upS_eq, if_pos (by omega)]
  · rw [upS_ne hj]
    by_cases h2 : j < i
    · rw [if_pos h2, if_pos (by omega)]
    · rw [if_neg h2, if_neg (by omega)]
theorem AZ_upd {Z : Nat → Int32} {n m e m' e' : Nat} (hn : inN n) (he : e < fctN n) (he' : e' < fctN n) : AZ (upd Z (120 * m + piN n e) (nI 1)) n m' e' = true ↔ AZ Z n m' e' = true ∨ (m' = m ∧ e' = e) := by
  have p1 := pi_lt hn he
  have p2 := pi_lt hn he'
  have hf := fct_le hn
  unfold AZ
  rw [decide_eq_true_eq, decide_eq_true_eq]
  by_cases hi : 120 * m' + piN n e' = 120 * m + piN n e
  · rw [hi, upS_eq]
    have h1 : m' = m := by omega
    have h2 : e' = e := pi_inj hn he' he (by omega)
    exact ⟨fun _ => Or.inr ⟨h1, h2⟩, fun _ => by decide⟩
  · rw [upS_ne hi]
    constructor
    · exact Or.inl
    · rintro (h1 | ⟨rfl, rfl⟩)
      · exact h1
      · exact absurd rfl hi
section M998
variable {h : zH} {m N : Nat} {S B E : Nat → Int32} {H : Nat → Nat → Int32} {J : Nat → Int64} {L U Z W : Nat → Int32} {d : Nat → Nat}
theorem sZ0 {k : Nat} (hk : k < 30720) : stZ (mset h m S B (dI d) E H J L U Z W) (m + 16) (nI k) (nI 0) = some (mset h m S B (dI d) E H J L U (upd Z k (nI 0)) W) := stZ_ms hk (Or.inl rfl)
theorem sZ1 {k : Nat} (hk : k < 30720) : stZ (mset h m S B (dI d) E H J L U Z W) (m + 16) (nI k) (nI 1) = some (mset h m S B (dI d) E H J L U (upd Z k (nI 1)) W) := stZ_ms hk (Or.inr rfl)
theorem m_clr {v1 v2 v3 : Int32} {s : Nat} {k1 : zH → Option zH} (hs : s ≤ 256) : ∀ (r i fuel : Nat), i + r = s * 120 → r < fuel → f_X9_layFrom_l16 N m v1 v2 v3 (nI s) k1 fuel (nI i) (mset h m S B (dI d) E H J L U (clrZ Z i) W) = k1 (mset h m S B (dI d) E H J L U (clrZ Z (s * 120)) W) := by
  intro r
  induction r with
  | zero =>
    intro i fuel hi hf
    obtain ⟨fuel, rfl⟩ : ∃ m, fuel = m + 1 := ⟨fuel - 1, by omega⟩
    have : i = s * 120 := by omega
    subst this
    simp (disch := omega) only [f_X9_layFrom_l16, nlit, nltT, nltF, nleT, nleF, neqT, neqF, nadd, nmul, nsub, ↓reduceIte, Option.bind_some, onO_ms, gI_ms, gA_ms, pF_ms, ldI_ms, stI_ms, dI_app, updI, upN_eq, upN_ne, Nat.add_zero, Nat.zero_add]
  | succ r ih =>
    intro i fuel hi hf
    obtain ⟨fuel, rfl⟩ : ∃ m, fuel = m + 1 := ⟨fuel - 1, by omega⟩
    rw [← ih (i + 1) fuel (by omega) (by omega), ← clrZ_step]
    simp (disch := omega) only [f_X9_layFrom_l16, sZ0, nlit, nltT, nltF, nleT, nleF, neqT, neqF, nadd, nmul, nsub, ↓reduceIte, Option.bind_some, onO_ms, gI_ms, gA_ms, pF_ms, ldI_ms, stI_ms, dI_app, updI, upN_eq, upN_ne, Nat.add_zero, Nat.zero_add]
theorem m_lay96 {p k e but msk : Nat} {butv v4 : Int32} {k1 : zH → Option zH} (hNN : 10 < N) (hD : GoodD d) (hp : p < d 1) (hk : k = d (11 + 19 * p + 1)) (h20 : S 20 = nI (d 0)) (hL : LaidT (d 0) L U) (he : e < fctN (d 0)) (hm : msk < 2 ^ k) (hb : ∀ c, c < 8 → (nI c = butv) = (c = but)) : ∀ (r c fuel : Nat) (Z : Nat → Int32), c + r = k → r < fuel → ∃ Z' : Nat → Int32, f_X9_layFrom_l96 N m (nI p) butv v4 (nI msk) (nI (piN (d 0) e)) k1 fuel (nI c) (mset h m S B (dI d) E H J L U Z W) = k1 (mset h m S B (dI d) E H J L U Z' W) ∧ ∀ m' e', m' < 2 ^ k → e' < fctN (d 0) → (AZ Z' (d 0) m' e' = true ↔ AZ Z (d 0) m' e' = true ∨ ∃ c', c ≤ c' ∧ c' < k ∧ c' ≠ but ∧ bitN msk c' = 0 ∧ m' = msk + 2 ^ c' ∧ e' = mulN e (cardG d p c')) := by
  obtain ⟨⟨g0, g1, g2, g3, g4, g5, g7⟩, gb, gl, gp, gm⟩ := id hD
  obtain ⟨p8, pw', pc⟩ := gp p hp
  have hp5 : p < 5 := by omega
  have hf := fct_le g0
  have hk8 : k ≤ 8 := by omega
  have p2 := pow2_le hk8
  have pl := pi_lt g0 he
  intro r
  induction r with
  | zero =>
    intro c fuel Z hc hfu
    obtain ⟨fuel, rfl⟩ : ∃ m, fuel = m + 1 := ⟨fuel - 1, by omega⟩
    have hck : c = k := by omega
    refine ⟨Z, ?_, fun m' e' _ _ => ⟨Or.inl, fun h1 => ?_⟩⟩
    · rw [hk] at hck
      simp (disch := omega) only [f_X9_layFrom_l96, m_cardsOf, nlit, nltT, nltF, nleT, nleF, neqT, neqF, nadd, nmul, nsub, ↓reduceIte, Option.bind_some, onO_ms, gI_ms, gA_ms, pF_ms, ldI_ms, stI_ms, dI_app, updI, upN_eq, upN_ne, Nat.add_zero, Nat.zero_add]
    · rcases h1 with h1 | ⟨c', c1, c2, -⟩
      · exact h1
      · omega
  | succ r ih =>
    intro c fuel Z hc hfu
    obtain ⟨fuel, rfl⟩ : ∃ m, fuel = m + 1 := ⟨fuel - 1, by omega⟩
    have hck : c < d (11 + 19 * p + 1) := by omega
    have ib : (nI msk >>> (nI c &&& nI 31)) &&& nI 1 = nI (bitN msk c) := i_bit (by omega) (by omega)
    have hbc := hb c (by omega)
    have e10 : ((nI 1 : Int32) = nI 1) = True := eq_true rfl
    have e01 : ((nI 0 : Int32) = nI 1) = False := eq_false (by decide)
    by_cases hcb : c = but
    · obtain ⟨Z', i1, i2⟩ := ih (c + 1) fuel Z (by omega) (by omega)
      refine ⟨Z', ?_, fun m' e' hm' he' => ?_⟩
      · rw [← i1]
        have hbt : (nI c = butv) = True := hbc.trans (eq_true hcb)
        simp (disch := omega) only [f_X9_layFrom_l96, m_cardsOf, hbt, zjn, nlit, nltT, nltF, nleT, nleF, neqT, neqF, nadd, nmul, nsub, ↓reduceIte, Option.bind_some, onO_ms, gI_ms, gA_ms, pF_ms, ldI_ms, stI_ms, dI_app, updI, upN_eq, upN_ne, Nat.add_zero, Nat.zero_add]
      · rw [i2 m' e' hm' he']
        constructor
        · rintro (h1 | ⟨c', c1, c2⟩)
          · exact Or.inl h1
          · exact Or.inr ⟨c', by omega, c2⟩
        · rintro (h1 | ⟨c', c1, c2, c3, c4⟩)
          · exact Or.inl h1
          · exact Or.inr ⟨c', by omega, c2, c3, c4⟩
    · have hbt : (nI c = butv) = False := hbc.trans (eq_false hcb)
      rcases bitN_01 msk c with hbit | hbit
      · have eo : nI msk ||| (nI 1 <<< (nI c &&& nI 31)) = nI (msk + 2 ^ c) := by
          have := i_or (show msk < 256 by omega) (show c < 8 by omega)
          unfold orN at this
          rw [if_neg (by omega)] at this
          exact this
        have ba := bit_add hk8 hm (show c < k by omega) hbit
        obtain ⟨i1', i2'⟩ := isN_idx g0 (pc c hck).1
        have hgc : cardG d p c < fctN (d 0) := i1'
        have n1 := m_elementOf (N := N) (h := h) (m := m) (S := S) (B := B) (E := E) (H := H) (J := J) (L := L) (U := U) (Z := Z) (W := W) (d := d) hp5 (show c < 8 by omega)
        have n2 := m_times (N := N) (h := mset h m S B (dI d) E H J L U Z W) hNN g0 he hgc
        have n0 : d (11 + 19 * p + 3 + 2 * c) = numN (d 0) (cardG d p c) := i2'
        have mi := mul_in g0 he hgc
        have nb := (num_bd g0 mi).2
        have lt1 := (hL e he).2
        have lt2 := (hL _ mi).1
        have pl2 := pi_lt g0 mi
        obtain ⟨Z', i1, i2⟩ := ih (c + 1) fuel (upd Z (120 * (msk + 2 ^ c) + piN (d 0) (mulN e (cardG d p c))) (nI 1)) (by omega) (by omega)
        refine ⟨Z', ?_, fun m' e' hm' he' => ?_⟩
        · rw [← i1]
          simp (disch := omega) only [f_X9_layFrom_l96, m_cardsOf, hbt, ib, hbit, e01, zjn, lt1, n1, n0, h20, n2, lt2, eo, sZ1, nlit, nltT, nltF, nleT, nleF, neqT, neqF, nadd, nmul, nsub, ↓reduceIte, Option.bind_some, onO_ms, gI_ms, gA_ms, pF_ms, ldI_ms, stI_ms, dI_app, updI, upN_eq, upN_ne, Nat.add_zero, Nat.zero_add]
        · rw [i2 m' e' hm' he', AZ_upd g0 mi he']
          constructor
          · rintro ((h1 | ⟨h1, h2⟩) | ⟨c', c1, c2⟩)
            · exact Or.inl h1
            · exact Or.inr ⟨c, Nat.le_refl c, by omega, hcb, hbit, h1, h2⟩
            · exact Or.inr ⟨c', by omega, c2⟩
          · rintro (h1 | ⟨c', c1, c2, c3, c4, c5, c6⟩)
            · exact Or.inl (Or.inl h1)
            · by_cases hcc : c' = c
              · subst hcc
                exact Or.inl (Or.inr ⟨c5, c6⟩)
              · exact Or.inr ⟨c', by omega, c2, c3, c4, c5, c6⟩
      · obtain ⟨Z', i1, i2⟩ := ih (c + 1) fuel Z (by omega) (by omega)
        refine ⟨Z', ?_, fun m' e' hm' he' => ?_⟩
        · rw [← i1]
          simp (disch := omega) only [f_X9_layFrom_l96, m_cardsOf, hbt, ib, hbit, zjn, nlit, nltT, nltF, nleT, nleF, neqT, neqF, nadd, nmul, nsub, ↓reduceIte, Option.bind_some, onO_ms, gI_ms, gA_ms, pF_ms, ldI_ms, stI_ms, dI_app, updI, upN_eq, upN_ne, Nat.add_zero, Nat.zero_add]
        · rw [i2 m' e' hm' he']
          constructor
          · rintro (h1 | ⟨c', c1, c2⟩)
            · exact Or.inl h1
            · exact Or.inr ⟨c', by omega, c2⟩
          · rintro (h1 | ⟨c', c1, c2, c3, c4, c5⟩)
            · exact Or.inl h1
            · have : c' ≠ c := fun h9 => by subst h9; omega
              exact Or.inr ⟨c', by omega, c2, c3, c4, c5⟩
theorem m_lay65 {p k but msk : Nat} {butv v4 : Int32} {k1 : zH → Option zH} (hNN : 200 < N) (hD : GoodD d) (hp : p < d 1) (hk : k = d (11 + 19 * p + 1)) (h20 : S 20 = nI (d 0)) (h19 : S 19 = nI (fctN (d 0))) (hL : LaidT (d 0) L U) (hm : msk < 2 ^ k) (hb : ∀ c, c < 8 → (nI c = butv) = (c = but)) : ∀ (r i fuel : Nat) (Z : Nat → Int32), i + r = fctN (d 0) → r < fuel → ∃ Z' : Nat → Int32, f_X9_layFrom_l65 N m (nI p) butv v4 (nI msk) k1 fuel (nI i) (mset h m S B (dI d) E H J L U Z W) = k1 (mset h m S B (dI d) E H J L U Z' W) ∧ ∀ m' e', m' < 2 ^ k → e' < fctN (d 0) → (AZ Z' (d 0) m' e' = true ↔ AZ Z (d 0) m' e' = true ∨ ∃ c e, i ≤ piN (d 0) e ∧ c < k ∧ c ≠ but ∧ bitN msk c = 0 ∧ e < fctN (d 0) ∧ AZ Z (d 0) msk e = true ∧ m' = msk + 2 ^ c ∧ e' = mulN e (cardG d p c)) := by
  obtain ⟨⟨g0, g1, g2, g3, g4, g5, g7⟩, gb, gl, gp, gm⟩ := id hD
  obtain ⟨p8, pw', pc⟩ := gp p hp
  have hf := fct_le g0
  have hk8 : k ≤ 8 := by omega
  have p2 := pow2_le hk8
  intro r
  induction r with
  | zero =>
    intro i fuel Z hi hfu
    obtain ⟨fuel, rfl⟩ : ∃ m, fuel = m + 1 := ⟨fuel - 1, by omega⟩
    refine ⟨Z, ?_, fun m' e' _ _ => ⟨Or.inl, fun h1 => ?_⟩⟩
    · simp (disch := omega) only [f_X9_layFrom_l65, h19, nlit, nltT, nltF, nleT, nleF, neqT, neqF, nadd, nmul, nsub, ↓reduceIte, Option.bind_some, onO_ms, gI_ms, gA_ms, pF_ms, ldI_ms, stI_ms, dI_app, updI, upN_eq, upN_ne, Nat.add_zero, Nat.zero_add]
    · rcases h1 with h1 | ⟨c, e, c1, c2, c3, c4, c5, -⟩
      · exact h1
      · have := pi_lt g0 c5
        omega
  | succ r ih =>
    intro i fuel Z hi hfu
    obtain ⟨fuel, rfl⟩ : ∃ m, fuel = m + 1 := ⟨fuel - 1, by omega⟩
    obtain ⟨e0, he0, hpe⟩ := pi_sur g0 (show i < fctN (d 0) by omega)
    by_cases hz : Z (120 * msk + i) = nI 0
    · have ha : ¬ AZ Z (d 0) msk e0 = true := by
        unfold AZ
        rw [hpe, decide_eq_true_eq]
        exact fun h9 => h9 hz
      obtain ⟨Z', i1, i2⟩ := ih (i + 1) fuel Z (by omega) (by omega)
      refine ⟨Z', ?_, fun m' e' hm' he' => ?_⟩
      · rw [← i1]
        have hzt : (Z (120 * msk + i) = nI 0) = True := eq_true hz
        simp (disch := omega) only [f_X9_layFrom_l65, h19, ldZ_ms, hzt, zjn, nlit, nltT, nltF, nleT, nleF, neqT, neqF, nadd, nmul, nsub, ↓reduceIte, Option.bind_some, onO_ms, gI_ms, gA_ms, pF_ms, ldI_ms, stI_ms, dI_app, updI, upN_eq, upN_ne, Nat.add_zero, Nat.zero_add]
      · rw [i2 m' e' hm' he']
        constructor
        · rintro (h1 | ⟨c, e, c1, c2⟩)
          · exact Or.inl h1
          · exact Or.inr ⟨c, e, by omega, c2⟩
        · rintro (h1 | ⟨c, e, c1, c2, c3, c4, c5, c6, c7⟩)
          · exact Or.inl h1
          · have : piN (d 0) e ≠ i := fun h9 => by
              have := pi_inj g0 c5 he0 (h9.trans hpe.symm)
              subst this
              exact ha c6
            exact Or.inr ⟨c, e, by omega, c2, c3, c4, c5, c6, c7⟩
    · have ha : AZ Z (d 0) msk e0 = true := by
        unfold AZ
        rw [hpe, decide_eq_true_eq]
        exact hz
      obtain ⟨Z1, a1, a2⟩ := m_lay96 (N := N) (h := h) (m := m) (S := S) (B := B) (E := E) (H := H) (J := J) (L := L) (U := U) (W := W) (d := d) (p := p) (k := k) (but := but) (msk := msk) (butv := butv) (v4 := v4) (k1 := fun (h23 : zH) => f_X9_layFrom_l65 N m (nI p) butv v4 (nI msk) k1 fuel (nI i + (1 : Int32)) h23) (by omega) hD hp hk h20 hL he0 hm hb k 0 N Z (by omega) (by omega)
      obtain ⟨Z2, i1, i2⟩ := ih (i + 1) fuel Z1 (by omega) (by omega)
      have hsame : ∀ e, e < fctN (d 0) → (AZ Z1 (d 0) msk e = true ↔ AZ Z (d 0) msk e = true) := fun e he => by
        rw [a2 msk e hm he]
        exact ⟨fun h9 => h9.elim id (fun ⟨c', _, _, _, _, h8, _⟩ => absurd h8 (by have := Nat.two_pow_pos c'; omega)), Or.inl⟩
      refine ⟨Z2, ?_, fun m' e' hm' he' => ?_⟩
      · rw [← i1]
        rw [hpe] at a1
        have hzt : (Z (120 * msk + i) = nI 0) = False := eq_false hz
        simp (disch := omega) only [nlit, nadd] at a1
        simp (disch := omega) only [f_X9_layFrom_l65, h19, ldZ_ms, hzt, zjn, nlit, nltT, nltF, nleT, nleF, neqT, neqF, nadd, nmul, nsub, ↓reduceIte, Option.bind_some, onO_ms, gI_ms, gA_ms, pF_ms, ldI_ms, stI_ms, dI_app, updI, upN_eq, upN_ne, Nat.add_zero, Nat.zero_add]
        exact a1
      · rw [i2 m' e' hm' he', a2 m' e' hm' he']
        constructor
        · rintro ((h1 | ⟨c', -, c2, c3, c4, c5, c6⟩) | ⟨c, e, c1, c2, c3, c4, c5, c6, c7⟩)
          · exact Or.inl h1
          · exact Or.inr ⟨c', e0, by omega, c2, c3, c4, he0, ha, c5, c6⟩
          · exact Or.inr ⟨c, e, by omega, c2, c3, c4, c5, (hsame e c5).mp c6, c7⟩
        · rintro (h1 | ⟨c, e, c1, c2, c3, c4, c5, c6, c7, c8⟩)
          · exact Or.inl (Or.inl h1)
          · by_cases hee : e = e0
            · subst hee
              exact Or.inl (Or.inr ⟨c, Nat.zero_le c, c2, c3, c4, c7, c8⟩)
            · have : piN (d 0) e ≠ i := fun h9 => hee (pi_inj g0 c5 he0 (h9.trans hpe.symm))
              exact Or.inr ⟨c, e, by omega, c2, c3, c4, c5, (hsame e c5).mpr c6, c7, c8⟩
theorem m_lay55 {p k but a : Nat} {butv : Int32} (hNN : 1000 < N) (hD : GoodD d) (hp : p < d 1) (hk : k = d (11 + 19 * p + 1)) (h20 : S 20 = nI (d 0)) (h19 : S 19 = nI (fctN (d 0))) (hL : LaidT (d 0) L U) (ha : a < fctN (d 0)) (hb : ∀ c, c < 8 → (nI c = butv) = (c = but)) : ∀ (r msk fuel : Nat) (Z : Nat → Int32), msk + r = 2 ^ k → r < fuel → AZ Z (d 0) 0 a = true → Snd (d 0) k (cardG d p) but a (AZ Z (d 0)) → Cld (d 0) k (cardG d p) but msk (AZ Z (d 0)) → ∃ Z' : Nat → Int32, f_X9_layFrom_l55 N m (nI p) butv (nI (2 ^ k)) fuel (nI msk) (mset h m S B (dI d) E H J L U Z W) = some (mset h m S B (dI d) E H J L U Z' W) ∧ AZ Z' (d 0) 0 a = true ∧ Snd (d 0) k (cardG d p) but a (AZ Z' (d 0)) ∧ Cld (d 0) k (cardG d p) but (2 ^ k) (AZ Z' (d 0)) := by
  obtain ⟨⟨g0, g1, g2, g3, g4, g5, g7⟩, gb, gl, gp, gm⟩ := id hD
  obtain ⟨p8, pw', pc⟩ := gp p hp
  have hf := fct_le g0
  have hk8 : k ≤ 8 := by omega
  have p2 := pow2_le hk8
  have hGc : ∀ c, c < k → cardG d p c < fctN (d 0) := fun c hc => (isN_idx g0 (pc c (by omega)).1).1
  intro r
  induction r with
  | zero =>
    intro msk fuel Z hi hfu h0 hS hC
    obtain ⟨fuel, rfl⟩ : ∃ m, fuel = m + 1 := ⟨fuel - 1, by omega⟩
    have : msk = 2 ^ k := by omega
    subst this
    refine ⟨Z, ?_, h0, hS, hC⟩
    simp (disch := omega) only [f_X9_layFrom_l55, nleT, ↓reduceIte]
  | succ r ih =>
    intro msk fuel Z hi hfu h0 hS hC
    obtain ⟨fuel, rfl⟩ : ∃ m, fuel = m + 1 := ⟨fuel - 1, by omega⟩
    obtain ⟨Z1, a1, a2⟩ := m_lay65 (N := N) (h := h) (m := m) (S := S) (B := B) (E := E) (H := H) (J := J) (L := L) (U := U) (W := W) (d := d) (p := p) (k := k) (but := but) (msk := msk) (butv := butv) (v4 := nI (2 ^ k)) (k1 := fun (h24 : zH) => f_X9_layFrom_l55 N m (nI p) butv (nI (2 ^ k)) fuel (nI msk + (1 : Int32)) h24) (by omega) hD hp hk h20 h19 hL (show msk < 2 ^ k by omega) hb (fctN (d 0)) 0 N Z (by omega) (by omega)
    have hE : Ext (d 0) k (cardG d p) but msk (AZ Z (d 0)) (AZ Z1 (d 0)) := by
      intro m' e' hm' he'
      rw [a2 m' e' hm' he']
      constructor
      · rintro (h1 | ⟨c, e, -, c2, c3, c4, c5, c6, c7, c8⟩)
        · exact Or.inl h1
        · exact Or.inr ⟨c, e, c2, c3, c4, c5, c6, c7, c8⟩
      · rintro (h1 | ⟨c, e, c2, c3, c4, c5, c6, c7, c8⟩)
        · exact Or.inl h1
        · exact Or.inr ⟨c, e, Nat.zero_le _, c2, c3, c4, c5, c6, c7, c8⟩
    obtain ⟨b1, b2', b3⟩ := Ext_ok hk8 g0 hGc (show msk < 2 ^ k by omega) hE ha h0 hS hC
    obtain ⟨Z2, i1, i2⟩ := ih (msk + 1) fuel Z1 (by omega) (by omega) b1 b2' b3
    refine ⟨Z2, ?_, i2⟩
    rw [← i1]
    simp (disch := omega) only [nlit, nadd] at a1
    simp (disch := omega) only [f_X9_layFrom_l55, nlit, nleF, nadd, ↓reduceIte]
    exact a1
theorem m_layFrom {p but a : Nat} {butv : Int32} (hNN : 54400 < N) (hD : GoodD d) (hp : p < d 1) (hLO : LaidOK (S 20) (S 19) L U) (ha : a < fctN (d 0)) (hb : ∀ c, c < 8 → (nI c = butv) = (c = but)) : ∃ (L' U' Z' : Nat → Int32), f_X9_layFrom N m (nI p) (nI (numN (d 0) a)) butv (mset h m S B (dI d) E H J L U Z W) = some (mset h m (upd (upd S 20 (nI (d 0))) 19 (nI (fctN (d 0)))) B (dI d) E H J L' U' Z' W) ∧ LaidT (d 0) L' U' ∧ ∀ msk e, msk < 2 ^ d (11 + 19 * p + 1) → e < fctN (d 0) → (AZ Z' (d 0) msk e = true ↔ Rch (d (11 + 19 * p + 1)) (cardG d p) but a msk e) := by
  obtain ⟨⟨g0, g1, g2, g3, g4, g5, g7⟩, gb, gl, gp, gm⟩ := id hD
  obtain ⟨p8, pw', pc⟩ := gp p hp
  have hp5 : p < 5 := by omega
  have hf := fct_le g0
  have p2 := pow2_le p8
  have hGc : ∀ c, c < d (11 + 19 * p + 1) → cardG d p c < fctN (d 0) := fun c hc => (isN_idx g0 (pc c hc).1).1
  obtain ⟨L', U', l1, l2⟩ := m_layGroup (N := N) (h := h) (m := m) (S := S) (B := B) (E := E) (H := H) (J := J) (L := L) (U := U) (Z := Z) (W := W) hNN g0 hLO
  have pl := pi_lt g0 ha
  have hcl0 : ∀ msk e, msk < 2 ^ d (11 + 19 * p + 1) → e < fctN (d 0) → ¬ AZ (clrZ Z (2 ^ d (11 + 19 * p + 1) * 120)) (d 0) msk e = true := by
    intro msk e hm he
    have := pi_lt g0 he
    unfold AZ clrZ
    rw [decide_eq_true_eq, if_pos (by omega)]
    exact fun h9 => h9 rfl
  have hup : ∀ msk e, msk < 2 ^ d (11 + 19 * p + 1) → e < fctN (d 0) → (AZ (upd (clrZ Z (2 ^ d (11 + 19 * p + 1) * 120)) (piN (d 0) a) (nI 1)) (d 0) msk e = true ↔ msk = 0 ∧ e = a) := by
    intro msk e hm he
    have := AZ_upd (Z := clrZ Z (2 ^ d (11 + 19 * p + 1) * 120)) (m := 0) (m' := msk) g0 ha he
    rw [Nat.mul_zero, Nat.zero_add] at this
    rw [this]
    exact ⟨fun h9 => h9.elim (fun h8 => absurd h8 (hcl0 msk e hm he)) id, Or.inr⟩
  obtain ⟨Z', q1, q2, q3, q4⟩ := m_lay55 (N := N) (h := h) (m := m) (S := upd (upd S 20 (nI (d 0))) 19 (nI (fctN (d 0)))) (B := B) (E := E) (H := H) (J := J) (L := L') (U := U') (W := W) (d := d) (p := p) (but := but) (butv := butv) (by omega) hD hp rfl (by rw [upS_ne (by omega), upS_eq]) (upS_eq _ _ _) l2 ha hb (2 ^ d (11 + 19 * p + 1)) 0 N (upd (clrZ Z (2 ^ d (11 + 19 * p + 1) * 120)) (piN (d 0) a) (nI 1)) (by omega) (by omega) ((hup 0 a p2.2 ha).mpr ⟨rfl, rfl⟩) (fun msk e hm he h1 => by
    obtain ⟨rfl, rfl⟩ := (hup msk e hm he).mp h1
    exact Rch_0) (fun msk e c hm => absurd hm (Nat.not_lt_zero msk))
  refine ⟨L', U', Z', ?_, l2, fun msk e hm he => Tab_iff p8 g0 ha hGc q2 q3 q4 hm he⟩
  have sl : nI 1 <<< (nI (d (11 + 19 * p + 1)) &&& nI 31) = nI (2 ^ d (11 + 19 * p + 1)) := i_shl p8
  have e0 : clrZ Z 0 = Z := funext fun j => if_neg (Nat.not_lt_zero j)
  have nb := (num_bd g0 ha).2
  have lt1 := (l2 a ha).1
  have c1 := fun k1 => m_clr (N := N) (h := h) (m := m) (S := upd (upd S 20 (nI (d 0))) 19 (nI (fctN (d 0)))) (B := B) (d := d) (E := E) (H := H) (J := J) (L := L') (U := U') (Z := Z) (W := W) (v1 := nI p) (v2 := nI (numN (d 0) a)) (v3 := butv) (s := 2 ^ d (11 + 19 * p + 1)) (k1 := k1) p2.1 (2 ^ d (11 + 19 * p + 1) * 120) 0 N (by omega) (by omega)
  rw [e0] at c1
  refine Eq.trans ?_ q1
  simp (disch := omega) only [f_X9_layFrom, onO_ms, l1, m_cardsOf, nlit, sl, c1, Option.bind_some]
  simp (disch := omega) only [lt1, sZ1, nlit, nltT, nltF, nleT, nleF, neqT, neqF, nadd, nmul, nsub, ↓reduceIte, Option.bind_some, onO_ms, gI_ms, gA_ms, pF_ms, ldI_ms, stI_ms, dI_app, updI, upN_eq, upN_ne, Nat.add_zero, Nat.zero_add]
end M998

/-! ===== the model answers from its table ===== -/
def sbR (s : Nat) : Nat → Nat → Nat → Nat
  | 0, _, acc => acc
  | r + 1, c, acc => sbR s r (c + 1) (acc + bitN s c)
theorem sbR_pop (s : Nat) : sbR s 8 0 0 = popN s := by
  have b0 : bitN s 0 = s % 2 := by unfold bitN; rw [Nat.pow_zero, Nat.div_one]
  show 0 + bitN s 0 + bitN s 1 + bitN s 2 + bitN s 3 + bitN s 4 + bitN s 5 + bitN s 6 + bitN s 7 = popN s
  rw [Nat.zero_add, b0]
  rfl
theorem cntR_countP (f : Nat → Bool) : ∀ r e acc, cntR f r e acc = acc + (List.range' e r).countP f
  | 0, e, acc => by simp [cntR]
  | r + 1, e, acc => by
    show cntR f r (e + 1) _ = _
    rw [cntR_countP f r (e + 1), List.range'_succ, List.countP_cons]
    cases f e <;> simp <;> omega
theorem cntR_range (f : Nat → Bool) (M : Nat) : cntR f M 0 0 = (List.range M).countP f := by
  rw [cntR_countP, List.range_eq_range', Nat.zero_add]
theorem cntR_more {f : Nat → Bool} : ∀ r e acc, (∀ j, e ≤ j → j < e + r → f j = false) → cntR f r e acc = acc
  | 0, _, _, _ => rfl
  | r + 1, e, acc, h => by
    show cntR f r (e + 1) _ = _
    rw [h e (Nat.le_refl e) (by omega), cntR_more r (e + 1) _ (fun j h1 h2 => h j (by omega) (by omega))]
    rfl
theorem cntR_split (f : Nat → Bool) : ∀ r s e acc, cntR f (r + s) e acc = cntR f s (e + r) (cntR f r e acc)
  | 0, s, e, acc => by rw [Nat.zero_add]; rfl
  | r + 1, s, e, acc => by
    rw [show r + 1 + s = r + s + 1 by omega]
    show cntR f (r + s) (e + 1) _ = cntR f s (e + (r + 1)) (cntR f r (e + 1) _)
    rw [cntR_split f r s (e + 1), show e + 1 + r = e + (r + 1) by omega]
theorem cntR_pi {n : Nat} {f F : Nat → Bool} (hn : inN n) (hF : ∀ e, e < fctN n → f e = F (piN n e)) : cntR f (fctN n) 0 0 = cntR F (fctN n) 0 0 := by
  have e := (pi_perm hn).countP_eq F
  rw [List.countP_map] at e
  rw [cntR_range, cntR_range, ← e]
  exact List.countP_congr (fun e he => by rw [hF e (List.mem_range.mp he)]; rfl)
section M999
variable {h : zH} {m N : Nat} {S B E : Nat → Int32} {H : Nat → Nat → Int32} {J : Nat → Int64} {L U Z W : Nat → Int32} {d : Nat → Nat}
theorem m_bits_l {s : Nat} {g : zH} (hs : s < 256) : ∀ (r c fuel acc : Nat), c + r = 8 → r < fuel → f_X9_bits_l4 N (nI s) fuel (nI acc) (nI c) g = some (nI (sbR s r c acc), g) := by
  intro r
  induction r with
  | zero =>
    intro c fuel acc hc hf
    obtain ⟨fuel, rfl⟩ : ∃ m, fuel = m + 1 := ⟨fuel - 1, by omega⟩
    simp (disch := omega) only [f_X9_bits_l4, nlit, nleT, ↓reduceIte]
    rfl
  | succ r ih =>
    intro c fuel acc hc hf
    obtain ⟨fuel, rfl⟩ : ∃ m, fuel = m + 1 := ⟨fuel - 1, by omega⟩
    have ib : (nI s >>> (nI c &&& nI 31)) &&& nI 1 = nI (bitN s c) := i_bit hs (by omega)
    refine Eq.trans ?_ (ih (c + 1) fuel (acc + bitN s c) (by omega) (by omega))
    simp (disch := omega) only [f_X9_bits_l4, nlit, nleF, ib, nadd, ↓reduceIte]
theorem m_bits {s : Nat} {g : zH} (hNN : 10 < N) (hs : s < 256) : f_X9_bits N (nI s) g = some (nI (popN s), g) := by
  rw [← sbR_pop]
  exact m_bits_l hs 8 0 N 0 (by omega) (by omega)
theorem m_fewest_l {p k : Nat} (hNN : 10 < N) (hn : inN (d 0)) (hp : p < 5) (hk : k = d (11 + 19 * p + 1)) (hk8 : k ≤ 8) : ∀ (r j fuel : Nat) (best : Option Nat), j + r = 2 ^ k → r < fuel → (∀ v, best = some v → v ≤ 8) → f_X9_fewestLaid_l19 N m (nI p) (nI (piN (d 0) 0)) fuel (eI best) (nI j) (mset h m S B (dI d) E H J L U Z W) = some (eI (fewR (fun j => AZ Z (d 0) j 0) r j best), mset h m S B (dI d) E H J L U Z W) := by
  have p2 := pow2_le hk8
  have hf := fct_le hn
  have pl := pi_lt hn (Nat.lt_trans Nat.zero_lt_one (fct_pos hn))
  subst hk
  have sl : nI 1 <<< (nI (d (11 + 19 * p + 1)) &&& nI 31) = nI (2 ^ d (11 + 19 * p + 1)) := i_shl hk8
  intro r
  induction r with
  | zero =>
    intro j fuel best hj hfu hb
    obtain ⟨fuel, rfl⟩ : ∃ m, fuel = m + 1 := ⟨fuel - 1, by omega⟩
    simp (disch := omega) only [f_X9_fewestLaid_l19, m_cardsOf, sl, nlit, nltT, nltF, nleT, nleF, neqT, neqF, nadd, nmul, nsub, ↓reduceIte, Option.bind_some, onO_ms, gI_ms, gA_ms, pF_ms, ldI_ms, stI_ms, dI_app, updI, upN_eq, upN_ne, Nat.add_zero, Nat.zero_add]
    rfl
  | succ r ih =>
    intro j fuel best hj hfu hbest
    obtain ⟨fuel, rfl⟩ : ∃ m, fuel = m + 1 := ⟨fuel - 1, by omega⟩
    have c2 := fun (g : zH) => m_bits (N := N) (g := g) (s := j) hNN (by omega)
    have p8 := popN_le j
    show _ = some (eI (fewR (fun j => AZ Z (d 0) j 0) r (j + 1) (fewU (AZ Z (d 0) j 0) j best)), _)
    have hb2 : ∀ v, fewU (AZ Z (d 0) j 0) j best = some v → v ≤ 8 := by
      intro v hv
      unfold fewU at hv
      split at hv
      · split at hv
        · cases hv; exact p8
        · split at hv
          · cases hv; exact hbest v rfl
          · cases hv; exact p8
      · exact hbest v hv
    rw [← ih (j + 1) fuel _ (by omega) (by omega) hb2]
    by_cases hz : Z (120 * j + piN (d 0) 0) = nI 0
    · have ha : AZ Z (d 0) j 0 = false := by unfold AZ; simp [hz]
      have hzt : (Z (120 * j + piN (d 0) 0) = nI 0) = True := eq_true hz
      rw [ha]
      simp (disch := omega) only [f_X9_fewestLaid_l19, m_cardsOf, sl, ldZ_ms, hzt, zjn, fewU, Bool.false_eq_true, nlit, nltT, nltF, nleT, nleF, neqT, neqF, nadd, nmul, nsub, ↓reduceIte, Option.bind_some, onO_ms, gI_ms, gA_ms, pF_ms, ldI_ms, stI_ms, dI_app, updI, upN_eq, upN_ne, Nat.add_zero, Nat.zero_add]
    · have ha : AZ Z (d 0) j 0 = true := by unfold AZ; simp [hz]
      have hzt : (Z (120 * j + piN (d 0) 0) = nI 0) = False := eq_false hz
      rw [ha]
      cases best with
      | none =>
        have e1 : (eI none = -nI 1) = True := eq_true rfl
        simp (disch := omega) only [f_X9_fewestLaid_l19, m_cardsOf, sl, ldZ_ms, hzt, e1, c2, zjn, fewU, nlit, nltT, nltF, nleT, nleF, neqT, neqF, nadd, nmul, nsub, ↓reduceIte, Option.bind_some, onO_ms, gI_ms, gA_ms, pF_ms, ldI_ms, stI_ms, dI_app, updI, upN_eq, upN_ne, Nat.add_zero, Nat.zero_add]
        rfl
      | some v =>
        have hv8 := hbest v rfl
        have e1 : (nI v = -nI 1) = False := eq_false fun h9 => nI_nn (show v < 2 ^ 31 by omega) (by rw [h9]; decide)
        by_cases hvp : v ≤ popN j
        · simp (disch := omega) only [f_X9_fewestLaid_l19, m_cardsOf, sl, ldZ_ms, hzt, eI, e1, c2, hvp, zjn, fewU, nlit, nltT, nltF, nleT, nleF, neqT, neqF, nadd, nmul, nsub, ↓reduceIte, Option.bind_some, onO_ms, gI_ms, gA_ms, pF_ms, ldI_ms, stI_ms, dI_app, updI, upN_eq, upN_ne, Nat.add_zero, Nat.zero_add]
        · simp (disch := omega) only [f_X9_fewestLaid_l19, m_cardsOf, sl, ldZ_ms, hzt, eI, e1, c2, hvp, zjn, fewU, nlit, nltT, nltF, nleT, nleF, neqT, neqF, nadd, nmul, nsub, ↓reduceIte, Option.bind_some, onO_ms, gI_ms, gA_ms, pF_ms, ldI_ms, stI_ms, dI_app, updI, upN_eq, upN_ne, Nat.add_zero, Nat.zero_add]
theorem m_fewestLaid {p least : Nat} (hNN : 1000 < N) (hn : inN (d 0)) (hp : p < 5) (hk8 : d (11 + 19 * p + 1) ≤ 8) (h20 : S 20 = nI (d 0)) (hL : LaidT (d 0) L U) (hl : least ≤ 1) : f_X9_fewestLaid N m (nI p) (nI least) (mset h m S B (dI d) E H J L U Z W) = some (eI (fewR (fun j => AZ Z (d 0) j 0) (2 ^ d (11 + 19 * p + 1) - least) least none), mset h m S B (dI d) E H J L U Z W) := by
  have p2 := pow2_le hk8
  have h1 := Nat.lt_trans Nat.zero_lt_one (fct_pos hn)
  have k1 := m_neutral (N := N) (h := mset h m S B (dI d) E H J L U Z W) hn
  have nb := (num_bd hn h1).2
  have lt1 := (hL 0 h1).1
  refine Eq.trans ?_ (m_fewest_l (N := N) (h := h) (m := m) (S := S) (B := B) (E := E) (H := H) (J := J) (L := L) (U := U) (Z := Z) (W := W) (by omega) hn hp rfl hk8 (2 ^ d (11 + 19 * p + 1) - least) least N none (by omega) (by omega) (fun v hv => by cases hv))
  simp (disch := omega) only [f_X9_fewestLaid, h20, k1, lt1, nlit, nltT, nltF, nleT, nleF, neqT, neqF, nadd, nmul, nsub, ↓reduceIte, Option.bind_some, onO_ms, gI_ms, gA_ms, pF_ms, ldI_ms, stI_ms, dI_app, updI, upN_eq, upN_ne, Nat.add_zero, Nat.zero_add]
  rfl
theorem m_isReached_l {p i : Nat} {ev : Int32} (hp : p < 5) (hk8 : d (11 + 19 * p + 1) ≤ 8) (hi : i < 120) (hU : ∀ Z : Nat → Int32, ldI (mset h m S B (dI d) E H J L U Z W) (m + 15) ev = some (nI i)) : ∀ (r j fuel : Nat), j + r = 2 ^ d (11 + 19 * p + 1) → r < fuel → f_X9_isReached_l2 N m (nI p) ev fuel (nI j) (mset h m S B (dI d) E H J L U Z W) = some (b2 (anyR (fun j => decide (¬ Z (120 * j + i) = nI 0)) r j), mset h m S B (dI d) E H J L U Z W) := by
  have p2 := pow2_le hk8
  have sl : nI 1 <<< (nI (d (11 + 19 * p + 1)) &&& nI 31) = nI (2 ^ d (11 + 19 * p + 1)) := i_shl hk8
  intro r
  induction r with
  | zero =>
    intro j fuel hj hfu
    obtain ⟨fuel, rfl⟩ : ∃ m, fuel = m + 1 := ⟨fuel - 1, by omega⟩
    simp (disch := omega) only [f_X9_isReached_l2, m_cardsOf, sl, nlit, nltT, nltF, nleT, nleF, neqT, neqF, nadd, nmul, nsub, ↓reduceIte, Option.bind_some, onO_ms, gI_ms, gA_ms, pF_ms, ldI_ms, stI_ms, dI_app, updI, upN_eq, upN_ne, Nat.add_zero, Nat.zero_add]
    rfl
  | succ r ih =>
    intro j fuel hj hfu
    obtain ⟨fuel, rfl⟩ : ∃ m, fuel = m + 1 := ⟨fuel - 1, by omega⟩
    by_cases hz : Z (120 * j + i) = nI 0
    · have ha : anyR (fun j => decide (¬ Z (120 * j + i) = nI 0)) (r + 1) j = anyR (fun j => decide (¬ Z (120 * j + i) = nI 0)) r (j + 1) := by
        show (if decide (¬ Z (120 * j + i) = nI 0) = true then true else _) = _
        simp [hz]
      have hzt : (Z (120 * j + i) = nI 0) = True := eq_true hz
      rw [ha, ← ih (j + 1) fuel (by omega) (by omega)]
      simp (disch := omega) only [f_X9_isReached_l2, m_cardsOf, sl, hU, ldZ_ms, hzt, nlit, nltT, nltF, nleT, nleF, neqT, neqF, nadd, nmul, nsub, ↓reduceIte, Option.bind_some, onO_ms, gI_ms, gA_ms, pF_ms, ldI_ms, stI_ms, dI_app, updI, upN_eq, upN_ne, Nat.add_zero, Nat.zero_add]
    · have ha : anyR (fun j => decide (¬ Z (120 * j + i) = nI 0)) (r + 1) j = true := by
        show (if decide (¬ Z (120 * j + i) = nI 0) = true then true else _) = _
        simp [hz]
      have hzt : (Z (120 * j + i) = nI 0) = False := eq_false hz
      rw [ha]
      simp (disch := omega) only [f_X9_isReached_l2, m_cardsOf, sl, hU, ldZ_ms, hzt, nlit, nltT, nltF, nleT, nleF, neqT, neqF, nadd, nmul, nsub, ↓reduceIte, Option.bind_some, onO_ms, gI_ms, gA_ms, pF_ms, ldI_ms, stI_ms, dI_app, updI, upN_eq, upN_ne, Nat.add_zero, Nat.zero_add]
      rfl
theorem m_isReached {p e : Nat} (hNN : 1000 < N) (hn : inN (d 0)) (hp : p < 5) (hk8 : d (11 + 19 * p + 1) ≤ 8) (hL : LaidT (d 0) L U) (he : e < fctN (d 0)) : f_X9_isReached N m (nI p) (nI (numN (d 0) e)) (mset h m S B (dI d) E H J L U Z W) = some (b2 (anyR (fun j => AZ Z (d 0) j e) (2 ^ d (11 + 19 * p + 1) - 1) 1), mset h m S B (dI d) E H J L U Z W) := by
  have p2 := pow2_le hk8
  have nb := (num_bd hn he).2
  have lt1 := (hL e he).1
  have pl := pi_lt hn he
  have hf := fct_le hn
  exact m_isReached_l (i := piN (d 0) e) hp hk8 (by omega) (fun Z => by simp (disch := omega) only [ldI_ms, lt1]) (2 ^ d (11 + 19 * p + 1) - 1) 1 N (by omega) (by omega)
theorem m_reach_l {p : Nat} (hNN : 1000 < N) (hn : inN (d 0)) (hp : p < 5) (hk8 : d (11 + 19 * p + 1) ≤ 8) (h19 : S 19 = nI (fctN (d 0))) (hL : LaidT (d 0) L U) : ∀ (r i fuel acc : Nat), i + r = fctN (d 0) → r < fuel → acc ≤ i → f_X9_reach_l34 N m (nI p) fuel (nI acc) (nI i) (mset h m S B (dI d) E H J L U Z W) = some (nI (cntR (fun i => anyR (fun j => decide (¬ Z (120 * j + i) = nI 0)) (2 ^ d (11 + 19 * p + 1) - 1) 1) r i acc), mset h m S B (dI d) E H J L U Z W) := by
  have p2 := pow2_le hk8
  have hf := fct_le hn
  intro r
  induction r with
  | zero =>
    intro i fuel acc hi hfu ha
    obtain ⟨fuel, rfl⟩ : ∃ m, fuel = m + 1 := ⟨fuel - 1, by omega⟩
    simp (disch := omega) only [f_X9_reach_l34, h19, nlit, nltT, nltF, nleT, nleF, neqT, neqF, nadd, nmul, nsub, ↓reduceIte, Option.bind_some, onO_ms, gI_ms, gA_ms, pF_ms, ldI_ms, stI_ms, dI_app, updI, upN_eq, upN_ne, Nat.add_zero, Nat.zero_add]
    rfl
  | succ r ih =>
    intro i fuel acc hi hfu ha
    obtain ⟨fuel, rfl⟩ : ∃ m, fuel = m + 1 := ⟨fuel - 1, by omega⟩
    obtain ⟨e, he, hpe⟩ := pi_sur hn (show i < fctN (d 0) by omega)
    have lt2 := (hL e he).2
    rw [hpe] at lt2
    have q1 := m_isReached (N := N) (h := h) (m := m) (S := S) (B := B) (E := E) (H := H) (J := J) (L := L) (U := U) (Z := Z) (W := W) (p := p) (e := e) hNN hn hp hk8 hL he
    have ea : (fun j => AZ Z (d 0) j e) = (fun j => decide (¬ Z (120 * j + i) = nI 0)) := by
      funext j
      unfold AZ
      rw [hpe]
    rw [ea] at q1
    have e0 : ((nI 1 : Int32) = nI 0) = False := eq_false (by decide)
    cases hb : anyR (fun j => decide (¬ Z (120 * j + i) = nI 0)) (2 ^ d (11 + 19 * p + 1) - 1) 1 with
    | false =>
      rw [hb] at q1
      have e1 : cntR (fun i => anyR (fun j => decide (¬ Z (120 * j + i) = nI 0)) (2 ^ d (11 + 19 * p + 1) - 1) 1) (r + 1) i acc = cntR (fun i => anyR (fun j => decide (¬ Z (120 * j + i) = nI 0)) (2 ^ d (11 + 19 * p + 1) - 1) 1) r (i + 1) (acc + 0) := by
        show cntR _ r (i + 1) (acc + (if anyR (fun j => decide (¬ Z (120 * j + i) = nI 0)) (2 ^ d (11 + 19 * p + 1) - 1) 1 = true then 1 else 0)) = _
        rw [hb]; rfl
      rw [e1, ← ih (i + 1) fuel (acc + 0) (by omega) (by omega) (by omega)]
      simp (disch := omega) only [f_X9_reach_l34, h19, lt2, q1, b2_f', zjn, nlit, nltT, nltF, nleT, nleF, neqT, neqF, nadd, nmul, nsub, ↓reduceIte, Option.bind_some, onO_ms, gI_ms, gA_ms, pF_ms, ldI_ms, stI_ms, dI_app, updI, upN_eq, upN_ne, Nat.add_zero, Nat.zero_add]
    | true =>
      rw [hb] at q1
      have e1 : cntR (fun i => anyR (fun j => decide (¬ Z (120 * j + i) = nI 0)) (2 ^ d (11 + 19 * p + 1) - 1) 1) (r + 1) i acc = cntR (fun i => anyR (fun j => decide (¬ Z (120 * j + i) = nI 0)) (2 ^ d (11 + 19 * p + 1) - 1) 1) r (i + 1) (acc + 1) := by
        show cntR _ r (i + 1) (acc + (if anyR (fun j => decide (¬ Z (120 * j + i) = nI 0)) (2 ^ d (11 + 19 * p + 1) - 1) 1 = true then 1 else 0)) = _
        rw [hb]; rfl
      rw [e1, ← ih (i + 1) fuel (acc + 1) (by omega) (by omega) (by omega)]
      simp (disch := omega) only [f_X9_reach_l34, h19, lt2, q1, b2_t', e0, zjn, nlit, nltT, nltF, nleT, nleF, neqT, neqF, nadd, nmul, nsub, ↓reduceIte, Option.bind_some, onO_ms, gI_ms, gA_ms, pF_ms, ldI_ms, stI_ms, dI_app, updI, upN_eq, upN_ne, Nat.add_zero, Nat.zero_add]
theorem m_sum_l {p j : Nat} {v2 : Int32} {k1 : Int32 → zH → Option (Int32 × zH)} (hp : p < 5) (hk8 : d (11 + 19 * p + 1) ≤ 8) (hj : j < 256) (hw : ∀ c, c < d (11 + 19 * p + 1) → d (11 + 19 * p + 3 + 2 * c + 1) ≤ 999) : ∀ (r c fuel acc : Nat), c + r = d (11 + 19 * p + 1) → r < fuel → f_X9_cheapest_l74 N m (nI p) v2 (nI j) k1 fuel (nI acc) (nI c) (mset h m S B (dI d) E H J L U Z W) = k1 (nI (sumR (fun c => d (11 + 19 * p + 3 + 2 * c + 1)) j r c acc)) (mset h m S B (dI d) E H J L U Z W) := by
  intro r
  induction r with
  | zero =>
    intro c fuel acc hc hf
    obtain ⟨fuel, rfl⟩ : ∃ m, fuel = m + 1 := ⟨fuel - 1, by omega⟩
    simp (disch := omega) only [f_X9_cheapest_l74, m_cardsOf, nlit, nltT, nltF, nleT, nleF, neqT, neqF, nadd, nmul, nsub, ↓reduceIte, Option.bind_some, onO_ms, gI_ms, gA_ms, pF_ms, ldI_ms, stI_ms, dI_app, updI, upN_eq, upN_ne, Nat.add_zero, Nat.zero_add]
    rfl
  | succ r ih =>
    intro c fuel acc hc hf
    obtain ⟨fuel, rfl⟩ : ∃ m, fuel = m + 1 := ⟨fuel - 1, by omega⟩
    have ib : (nI j >>> (nI c &&& nI 31)) &&& nI 1 = nI (bitN j c) := i_bit hj (by omega)
    have n2 := m_baseOf (N := N) (h := h) (m := m) (S := S) (B := B) (E := E) (H := H) (J := J) (L := L) (U := U) (Z := Z) (W := W) (d := d) hp (show c < 8 by omega)
    have e1 : acc + bitN j c * d (11 + 19 * p + 3 + 2 * c + 1) = acc + (if bitN j c = 0 then 0 else d (11 + 19 * p + 3 + 2 * c + 1)) := by
      rcases bitN_01 j c with hb | hb
      · rw [hb, if_pos rfl, Nat.zero_mul]
      · rw [hb, if_neg (by omega), Nat.one_mul]
    show _ = k1 (nI (sumR _ j r (c + 1) (acc + (if bitN j c = 0 then 0 else d (11 + 19 * p + 3 + 2 * c + 1))))) _
    rw [← e1, ← ih (c + 1) fuel _ (by omega) (by omega)]
    simp (disch := omega) only [f_X9_cheapest_l74, m_cardsOf, n2, ib, nlit, nltT, nltF, nleT, nleF, neqT, neqF, nadd, nmul, nsub, ↓reduceIte, Option.bind_some, onO_ms, gI_ms, gA_ms, pF_ms, ldI_ms, stI_ms, dI_app, updI, upN_eq, upN_ne, Nat.add_zero, Nat.zero_add]
theorem m_minX {x y : Nat} {g : zH} (hx : x < 2 ^ 31) (hy : y < 2 ^ 31) : f_X9_min N (nI x) (nI y) g = some (nI (min x y), g) := by
  by_cases h1 : y ≤ x
  · rw [Nat.min_eq_right h1]
    simp (disch := omega) only [f_X9_min, nleT, ↓reduceIte]
  · rw [Nat.min_eq_left (by omega)]
    simp (disch := omega) only [f_X9_min, nleF, ↓reduceIte]
theorem m_cheap_l {p : Nat} (hNN : 1000 < N) (hn : inN (d 0)) (hp : p < 5) (hk8 : d (11 + 19 * p + 1) ≤ 8) (h20 : S 20 = nI (d 0)) (hL : LaidT (d 0) L U) (hw : ∀ c, c < d (11 + 19 * p + 1) → d (11 + 19 * p + 3 + 2 * c + 1) ≤ 999) : ∀ (r j fuel : Nat) (best : Option Nat), j + r = 2 ^ d (11 + 19 * p + 1) → r < fuel → (∀ v, best = some v → v ≤ 7992) → f_X9_cheapest_l29 N m (nI p) fuel (eI best) (nI j) (mset h m S B (dI d) E H J L U Z W) = some (eI (minR (fun j => AZ Z (d 0) j 0) (fun j => sumR (fun c => d (11 + 19 * p + 3 + 2 * c + 1)) j (d (11 + 19 * p + 1)) 0 0) r j best), mset h m S B (dI d) E H J L U Z W) := by
  have p2 := pow2_le hk8
  have hf := fct_le hn
  have h1 := Nat.lt_trans Nat.zero_lt_one (fct_pos hn)
  have pl := pi_lt hn h1
  have nb := (num_bd hn h1).2
  have lt1 := (hL 0 h1).1
  have k1 := m_neutral (N := N) (h := mset h m S B (dI d) E H J L U Z W) hn
  have sl : nI 1 <<< (nI (d (11 + 19 * p + 1)) &&& nI 31) = nI (2 ^ d (11 + 19 * p + 1)) := i_shl hk8
  intro r
  induction r with
  | zero =>
    intro j fuel best hj hfu hb
    obtain ⟨fuel, rfl⟩ : ∃ m, fuel = m + 1 := ⟨fuel - 1, by omega⟩
    simp (disch := omega) only [f_X9_cheapest_l29, m_cardsOf, sl, nlit, nltT, nltF, nleT, nleF, neqT, neqF, nadd, nmul, nsub, ↓reduceIte, Option.bind_some, onO_ms, gI_ms, gA_ms, pF_ms, ldI_ms, stI_ms, dI_app, updI, upN_eq, upN_ne, Nat.add_zero, Nat.zero_add]
    rfl
  | succ r ih =>
    intro j fuel best hj hfu hbest
    obtain ⟨fuel, rfl⟩ : ∃ m, fuel = m + 1 := ⟨fuel - 1, by omega⟩
    have s8 := sumR_le (w := fun c => d (11 + 19 * p + 3 + 2 * c + 1)) (m := j) (d (11 + 19 * p + 1)) 0 0 (fun c h1 h2 => hw c (by omega))
    have c2 := fun (v2 : Int32) (k1 : Int32 → zH → Option (Int32 × zH)) => m_sum_l (N := N) (h := h) (m := m) (S := S) (B := B) (E := E) (H := H) (J := J) (L := L) (U := U) (Z := Z) (W := W) (v2 := v2) (k1 := k1) hp hk8 (show j < 256 by omega) hw (d (11 + 19 * p + 1)) 0 N 0 (by omega) (by omega)
    show _ = some (eI (minR _ _ r (j + 1) (minU (AZ Z (d 0) j 0) (sumR (fun c => d (11 + 19 * p + 3 + 2 * c + 1)) j (d (11 + 19 * p + 1)) 0 0) best)), _)
    generalize sumR (fun c => d (11 + 19 * p + 3 + 2 * c + 1)) j (d (11 + 19 * p + 1)) 0 0 = sv at *
    have hb2 : ∀ v, minU (AZ Z (d 0) j 0) sv best = some v → v ≤ 7992 := by
      intro v hv
      unfold minU at hv
      split at hv
      · split at hv
        · cases hv; omega
        · cases hv
          have := hbest _ rfl
          exact Nat.le_trans (Nat.min_le_left _ _) this
      · exact hbest v hv
    rw [← ih (j + 1) fuel _ (by omega) (by omega) hb2]
    by_cases hz : Z (120 * j + piN (d 0) 0) = nI 0
    · have ha : AZ Z (d 0) j 0 = false := by unfold AZ; simp [hz]
      have hzt : (Z (120 * j + piN (d 0) 0) = nI 0) = True := eq_true hz
      rw [ha]
      simp (disch := omega) only [f_X9_cheapest_l29, m_cardsOf, sl, h20, k1, lt1, ldZ_ms, hzt, zjn, minU, Bool.false_eq_true, nlit, nltT, nltF, nleT, nleF, neqT, neqF, nadd, nmul, nsub, ↓reduceIte, Option.bind_some, onO_ms, gI_ms, gA_ms, pF_ms, ldI_ms, stI_ms, dI_app, updI, upN_eq, upN_ne, Nat.add_zero, Nat.zero_add]
    · have ha : AZ Z (d 0) j 0 = true := by unfold AZ; simp [hz]
      have hzt : (Z (120 * j + piN (d 0) 0) = nI 0) = False := eq_false hz
      rw [ha]
      cases best with
      | none =>
        have e1 : (eI none = -nI 1) = True := eq_true rfl
        simp (disch := omega) only [f_X9_cheapest_l29, m_cardsOf, sl, h20, k1, lt1, ldZ_ms, hzt, e1, c2, zjn, minU, nlit, nltT, nltF, nleT, nleF, neqT, neqF, nadd, nmul, nsub, ↓reduceIte, Option.bind_some, onO_ms, gI_ms, gA_ms, pF_ms, ldI_ms, stI_ms, dI_app, updI, upN_eq, upN_ne, Nat.add_zero, Nat.zero_add]
        rfl
      | some v =>
        have hv8 := hbest v rfl
        have e1 : (nI v = -nI 1) = False := eq_false fun h9 => nI_nn (show v < 2 ^ 31 by omega) (by rw [h9]; decide)
        have m1 := m_minX (N := N) (x := v) (y := sv) (g := mset h m S B (dI d) E H J L U Z W) (by omega) (by omega)
        simp (disch := omega) only [f_X9_cheapest_l29, m_cardsOf, sl, h20, k1, lt1, ldZ_ms, hzt, eI, e1, c2, m1, zjn, minU, nlit, nltT, nltF, nleT, nleF, neqT, neqF, nadd, nmul, nsub, ↓reduceIte, Option.bind_some, onO_ms, gI_ms, gA_ms, pF_ms, ldI_ms, stI_ms, dI_app, updI, upN_eq, upN_ne, Nat.add_zero, Nat.zero_add]
end M999

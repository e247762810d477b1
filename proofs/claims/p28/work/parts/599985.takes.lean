def wdN : List (List Nat) := [[103, 114, 111, 117, 112], [112, 108, 97, 121, 101, 114], [99, 97, 114, 100], [108, 111, 116], [112, 114, 105, 99, 101], [98, 97, 115, 101], [111, 114, 100, 101, 114], [98, 105, 100, 115], [112, 111, 116]]
def wdL (i : Nat) : Nat := (wdN.getD i []).length
def wdC (i j : Nat) : Nat := (wdN.getD i []).getD j 0
theorem wd_all : (List.range 54).all (fun x => decide (x % 6 < wdL (x / 6) → chS (x / 6) (nI (x % 6)) = some (nI (wdC (x / 6) (x % 6))) ∧ isLt (wdC (x / 6) (x % 6)) = true)) = true := by decide +kernel
theorem wl_all : (List.range 9).all (fun i => decide (lnS i = some (nI (wdL i)) ∧ wdL i ≤ 6 ∧ 0 < wdL i)) = true := by decide +kernel
theorem wd_ch {i j : Nat} (hi : i < 9) (hj : j < wdL i) : chS i (nI j) = some (nI (wdC i j)) ∧ isLt (wdC i j) = true := by
  have h1 := of_decide_eq_true (all_of wl_all hi)
  have := of_decide_eq_true (all_of wd_all (show i * 6 + j < 54 by omega))
  rw [show (i * 6 + j) / 6 = i by omega, show (i * 6 + j) % 6 = j by omega] at this
  exact this hj
theorem wd_ln {i : Nat} (hi : i < 9) : lnS i = some (nI (wdL i)) ∧ wdL i ≤ 6 ∧ 0 < wdL i := of_decide_eq_true (all_of wl_all hi)
theorem ltF_spec (b : Nat → Nat) : ∀ r p, (∀ j, p ≤ j → j < ltF b r p → isLt (b j) = true) ∧ (ltF b r p < p + r → ¬ isLt (b (ltF b r p)) = true)
  | 0, p => ⟨fun j h1 h2 => absurd h2 (Nat.not_lt.mpr h1), fun h => absurd h (Nat.lt_irrefl p)⟩
  | r + 1, p => by
    have e : ltF b (r + 1) p = if isLt (b p) = true then ltF b r (p + 1) else p := rfl
    rw [e]
    by_cases hb : isLt (b p) = true
    · rw [if_pos hb]
      obtain ⟨i1, i2⟩ := ltF_spec b r (p + 1)
      refine ⟨fun j h1 h2 => ?_, fun h => i2 (by omega)⟩
      by_cases hj : j = p
      · rw [hj]; exact hb
      · exact i1 j (by omega) h2
    · rw [if_neg hb]
      exact ⟨fun j h1 h2 => absurd h2 (Nat.not_lt.mpr h1), fun _ => hb⟩
/-- the word stands at q, and ends there -/
def wdAt (b : Nat → Nat) (len q i : Nat) : Prop := q + wdL i ≤ len ∧ (∀ j, j < wdL i → b (q + j) = wdC i j) ∧ (q + wdL i < len → ¬ isLt (b (q + wdL i)) = true)
theorem isDg_lt {c : Nat} (h : isLt c = true) : ¬ isDg c = true := by
  unfold isLt at h
  unfold isDg
  rw [Bool.and_eq_true, Nat.ble_eq, Nat.ble_eq] at *
  omega
theorem wdAt_iff {b : Nat → Nat} {len q i : Nat} (hi : i < 9) (hq : q ≤ len) : wdAt b len q i ↔ (tkK b len q = 2 ∧ tkE b len q = q + wdL i ∧ ∀ j, j < wdL i → b (q + j) = wdC i j) := by
  obtain ⟨l1, l2, l3⟩ := wd_ln hi
  have hs := ltF_spec b (len - q) q
  have hle := ltF_le b (len - q) q
  have hd : lts b len q = ltF b (len - q) q := rfl
  rw [← hd] at hs hle
  constructor
  · rintro ⟨h1, h2, h3⟩
    have hlt : ∀ j, j < wdL i → isLt (b (q + j)) = true := fun j hj => by rw [h2 j hj]; exact (wd_ch hi hj).2
    have hl0 := hlt 0 l3
    rw [Nat.add_zero] at hl0
    have hq2 : ¬ len ≤ q := by omega
    have hk : tkK b len q = 2 := by unfold tkK; rw [if_neg hq2, if_neg (isDg_lt hl0), if_pos hl0]
    have he : tkE b len q = lts b len q := by unfold tkE; rw [if_neg hq2, if_neg (isDg_lt hl0), if_pos hl0]
    refine ⟨hk, ?_, h2⟩
    rw [he]
    rcases Nat.lt_trichotomy (lts b len q) (q + wdL i) with h4 | h4 | h4
    · exfalso
      have := hlt (lts b len q - q) (by omega)
      rw [show q + (lts b len q - q) = lts b len q by omega] at this
      exact hs.2 (by omega) this
    · exact h4
    · exfalso
      exact h3 (by omega) (hs.1 _ (by omega) h4)
  · rintro ⟨h1, h2, h3⟩
    have hq2 : ¬ len ≤ q := fun h9 => by unfold tkK at h1; rw [if_pos h9] at h1; omega
    have hnd : ¬ isDg (b q) = true := fun h9 => by unfold tkK at h1; rw [if_neg hq2, if_pos h9] at h1; omega
    have hl : isLt (b q) = true := Decidable.byContradiction fun h9 => by unfold tkK at h1; rw [if_neg hq2, if_neg hnd, if_neg h9] at h1; omega
    have he : tkE b len q = lts b len q := by unfold tkE; rw [if_neg hq2, if_neg hnd, if_pos hl]
    rw [he] at h2
    exact ⟨by omega, h3, fun h4 => by rw [← h2]; exact hs.2 (by omega)⟩
section M99985
variable {h : zH} {q g N : Nat} {V B C : Nat → Int32} {cz : Int32} {b : Nat → Nat} {len : Nat}
theorem tkK_lt (b : Nat → Nat) (len q : Nat) : tkK b len q < 4 := by
  unfold tkK
  split
  · omega
  · split
    · omega
    · split <;> omega
theorem x_isWord_ly {p i : Nat} (hi : i < 9) (hT : TxtB B b len) (ht : TokAt V b len p) (hle : skp b len p + wdL i ≤ len) : ∀ (r j fuel : Nat), j + r = wdL i → r < fuel → (∀ k, j ≤ k → k < wdL i → b (skp b len p + k) = wdC i k) → f_X7_isWord_l28 N q i fuel (nI j) (rset h q g V B cz C) = some (nI 1, rset h q g V B cz C) := by
  obtain ⟨l1, l2, l3⟩ := wd_ln hi
  have hl := hT.1
  obtain ⟨t3, t5, t4, t6, t7⟩ := ht
  intro r
  induction r with
  | zero =>
    intro j fuel hj hf hq
    obtain ⟨fuel, rfl⟩ : ∃ m, fuel = m + 1 := ⟨fuel - 1, by omega⟩
    simp (disch := omega) only [f_X7_isWord_l28, l1, nleT, nlit, ↓reduceIte, Option.bind_some]
  | succ r ih =>
    intro j fuel hj hf hq
    obtain ⟨fuel, rfl⟩ : ∃ m, fuel = m + 1 := ⟨fuel - 1, by omega⟩
    obtain ⟨b1, b2'⟩ := hT.2 (skp b len p + j) (by omega)
    obtain ⟨w1, w2⟩ := wd_ch hi (show j < wdL i by omega)
    have i1 := ih (j + 1) fuel (by omega) (by omega) (fun k h1 h2 => hq k (by omega) h2)
    have a0 : (nI (skp b len p + j) < nI 0) = False := eq_false (nI_nn (by omega))
    have hb := hq j (Nat.le_refl j) (by omega)
    rw [hb] at b2' b1
    simp (disch := omega) only [f_X7_isWord_l28, l1, nleF, nlit, rg_I, rg_A, t5, nadd, a0, r_ldB, b2', w1, neqT, i1, ↓reduceIte, Option.bind_some]
theorem x_isWord_ln {p i : Nat} (hi : i < 9) (hT : TxtB B b len) (ht : TokAt V b len p) (hle : skp b len p + wdL i ≤ len) : ∀ (r j fuel : Nat), j + r = wdL i → r < fuel → ¬ (∀ k, j ≤ k → k < wdL i → b (skp b len p + k) = wdC i k) → f_X7_isWord_l28 N q i fuel (nI j) (rset h q g V B cz C) = some (nI 0, rset h q g V B cz C) := by
  obtain ⟨l1, l2, l3⟩ := wd_ln hi
  have hl := hT.1
  obtain ⟨t3, t5, t4, t6, t7⟩ := ht
  intro r
  induction r with
  | zero =>
    intro j fuel hj hf hq
    exact absurd (fun k h1 h2 => by omega) hq
  | succ r ih =>
    intro j fuel hj hf hq
    obtain ⟨fuel, rfl⟩ : ∃ m, fuel = m + 1 := ⟨fuel - 1, by omega⟩
    obtain ⟨b1, b2'⟩ := hT.2 (skp b len p + j) (by omega)
    obtain ⟨w1, w2⟩ := wd_ch hi (show j < wdL i by omega)
    have a0 : (nI (skp b len p + j) < nI 0) = False := eq_false (nI_nn (by omega))
    have w256 : wdC i j < 256 := by
      have := w2
      unfold isLt at this
      rw [Bool.and_eq_true, Nat.ble_eq, Nat.ble_eq] at this
      omega
    by_cases hb : b (skp b len p + j) = wdC i j
    · have i1 := ih (j + 1) fuel (by omega) (by omega) (fun h9 => hq (fun k h1 h2 => by
        by_cases hkj : k = j
        · rw [hkj]; exact hb
        · exact h9 k (by omega) h2))
      rw [hb] at b2' b1
      simp (disch := omega) only [f_X7_isWord_l28, l1, nleF, nlit, rg_I, rg_A, t5, nadd, a0, r_ldB, b2', w1, neqT, i1, ↓reduceIte, Option.bind_some]
    · simp (disch := omega) only [f_X7_isWord_l28, l1, nleF, nlit, rg_I, rg_A, t5, nadd, a0, r_ldB, b2', w1, neqF, ↓reduceIte, Option.bind_some]
theorem x_isWord_y {p i : Nat} (hNN : 100 < N) (hi : i < 9) (hp : p ≤ len) (hT : TxtB B b len) (ht : TokAt V b len p) (hw : wdAt b len (skp b len p) i) : f_X7_isWord N q i (rset h q g V B cz C) = some (nI 1, rset h q g V B cz C) := by
  obtain ⟨l1, l2, l3⟩ := wd_ln hi
  obtain ⟨s1, s2⟩ := skp_le (b := b) hp
  obtain ⟨k1, k2, k3⟩ := (wdAt_iff hi s2).mp hw
  have hl := hT.1
  have w := x_isWord_ly (N := N) (h := h) (q := q) (g := g) (cz := cz) (C := C) hi hT ht hw.1 (wdL i) 0 N (by omega) (by omega) (fun k _ h2 => k3 k h2)
  obtain ⟨t3, t5, t4, t6, t7⟩ := ht
  rw [k1] at t4
  rw [k2] at t6
  have e1 : nI (skp b len p + wdL i) - nI (skp b len p) = nI (wdL i) := by rw [nsub (by omega), Nat.add_sub_cancel_left]
  have hbd := hw.1
  simp (disch := omega) only [f_X7_isWord, rg_I, t4, t5, t6, nlit, neqT, l1, e1, w, ↓reduceIte, Option.bind_some]
theorem x_isWord_n {p i : Nat} (hNN : 100 < N) (hi : i < 9) (hp : p ≤ len) (hT : TxtB B b len) (ht : TokAt V b len p) (hw : ¬ wdAt b len (skp b len p) i) : f_X7_isWord N q i (rset h q g V B cz C) = some (nI 0, rset h q g V B cz C) := by
  obtain ⟨l1, l2, l3⟩ := wd_ln hi
  obtain ⟨s1, s2⟩ := skp_le (b := b) hp
  have hl := hT.1
  obtain ⟨e1, e2, -, -⟩ := tk_bounds (b := b) s2
  have hk4 := tkK_lt b len (skp b len p)
  obtain ⟨t3, t5, t4, t6, t7⟩ := id ht
  by_cases hk : tkK b len (skp b len p) = 2
  · have es : nI (tkE b len (skp b len p)) - nI (skp b len p) = nI (tkE b len (skp b len p) - skp b len p) := nsub e1
    rw [hk] at t4
    by_cases he : tkE b len (skp b len p) - skp b len p = wdL i
    · have w := x_isWord_ln (N := N) (h := h) (q := q) (g := g) (cz := cz) (C := C) hi hT ht (by omega) (wdL i) 0 N (by omega) (by omega) (fun h9 => hw ((wdAt_iff hi s2).mpr ⟨hk, by omega, fun j hj => h9 j (Nat.zero_le j) hj⟩))
      simp (disch := omega) only [f_X7_isWord, rg_I, t4, t5, t6, nlit, neqT, l1, es, he, w, ↓reduceIte, Option.bind_some]
    · simp (disch := omega) only [f_X7_isWord, rg_I, t4, t5, t6, nlit, neqT, neqF, l1, es, ↓reduceIte, Option.bind_some]
  · simp (disch := omega) only [f_X7_isWord, rg_I, t4, nlit, neqF, ↓reduceIte, Option.bind_some]
/-- a sign stands at q -/
def sgAt (b : Nat → Nat) (len q c : Nat) : Prop := q < len ∧ b q = c
theorem x_isSign {p c : Nat} (hp : p ≤ len) (hc : isDg c = false ∧ isLt c = false) (hc2 : c < 256) (hT : TxtB B b len) (ht : TokAt V b len p) : (sgAt b len (skp b len p) c → f_X7_isSign N q (nI c) (rset h q g V B cz C) = some (nI 1, rset h q g V B cz C)) ∧ (¬ sgAt b len (skp b len p) c → f_X7_isSign N q (nI c) (rset h q g V B cz C) = some (nI 0, rset h q g V B cz C)) := by
  obtain ⟨s1, s2⟩ := skp_le (b := b) hp
  have hl := hT.1
  have hk4 := tkK_lt b len (skp b len p)
  obtain ⟨t3, t5, t4, t6, t7⟩ := id ht
  have a0 : (nI (skp b len p) < nI 0) = False := eq_false (nI_nn (by omega))
  refine ⟨fun hs => ?_, fun hs => ?_⟩
  · obtain ⟨b1, b2'⟩ := hT.2 _ hs.1
    have hk : tkK b len (skp b len p) = 3 := by
      unfold tkK
      rw [if_neg (by have := hs.1; omega), hs.2, hc.1, hc.2]
      rfl
    rw [hk] at t4
    rw [hs.2] at b2'
    have hlt := hs.1
    simp (disch := omega) only [f_X7_isSign, rg_I, rg_A, t4, t5, a0, nlit, neqT, nleF, r_ldB, b2', ↓reduceIte, Option.bind_some]
  · by_cases hk : tkK b len (skp b len p) = 3
    · have hlt : skp b len p < len := Nat.lt_of_not_le fun h9 => by unfold tkK at hk; rw [if_pos h9] at hk; omega
      obtain ⟨b1, b2'⟩ := hT.2 _ hlt
      have hne : b (skp b len p) ≠ c := fun h9 => hs ⟨hlt, h9⟩
      rw [hk] at t4
      simp (disch := omega) only [f_X7_isSign, rg_I, rg_A, t4, t5, a0, nlit, neqT, neqF, nleF, r_ldB, b2', ↓reduceIte, Option.bind_some]
    · simp (disch := omega) only [f_X7_isSign, rg_I, t4, nlit, neqF, ↓reduceIte, Option.bind_some]
def errV (V : Nat → Int32) (code : Int32) (off : Nat) : Nat → Int32 := upd (upd V 12 code) 13 (nI off)
theorem x_fail {code : Int32} {off : Nat} : f_X7_fail N q code (nI off) (rset h q g V B cz C) = some (nI 0, rset h q g (errV V code off) B cz C) := by
  simp only [f_X7_fail, rp_I, nlit, Option.bind_some]
  rfl
/-- what stays -/
def V45 (V V' : Nat → Int32) : Prop := ∀ k, k ≠ 4 → k ≠ 5 → k ≠ 6 → k ≠ 7 → k ≠ 8 → V' k = V k
theorem x_takeSign_y {p c : Nat} (hNN : 1000 < N) (hp : p ≤ len) (hc : isDg c = false ∧ isLt c = false) (hc2 : c < 256) (hT : TxtB B b len) (ht : TokAt V b len p) (hs : sgAt b len (skp b len p) c) : ∃ V', f_X7_takeSign N q (nI c) (rset h q g V B cz C) = some (nI 1, rset h q g V' B cz C) ∧ TokAt V' b len (skp b len p + 1) ∧ V45 V V' ∧ V' 8 = V 8 := by
  have i1 := (x_isSign (N := N) (h := h) (q := q) (g := g) (cz := cz) (C := C) hp hc hc2 hT ht).1 hs
  obtain ⟨t3, t5, t4, t6, t7⟩ := id ht
  have he : tkE b len (skp b len p) = skp b len p + 1 := by
    unfold tkE
    rw [if_neg (by have := hs.1; omega), hs.2, hc.1, hc.2]
    rfl
  rw [he] at t6
  obtain ⟨V', a1, a2, a3⟩ := x_advance (N := N) (h := h) (q := q) (g := g) (cz := cz) (C := C) hNN hT t3 t6 hs.1
  have e0 : (nI 1 = nI 0) = False := eq_false (by decide)
  refine ⟨V', ?_, a2, fun k k4 k5 k6 k7 k8 => a3 k k4 k5 k6 k7, a3 8 (by omega) (by omega) (by omega) (by omega)⟩
  simp only [f_X7_takeSign, r_o7, i1, a1, e0, nlit, ↓reduceIte, Option.bind_some]
theorem x_takeSign_n {p c : Nat} (hp : p ≤ len) (hc : isDg c = false ∧ isLt c = false) (hc2 : c < 256) (hT : TxtB B b len) (ht : TokAt V b len p) (hs : ¬ sgAt b len (skp b len p) c) : f_X7_takeSign N q (nI c) (rset h q g V B cz C) = some (nI 0, rset h q g (errV V (-nI 2) (skp b len p)) B cz C) := by
  have i1 := (x_isSign (N := N) (h := h) (q := q) (g := g) (cz := cz) (C := C) hp hc hc2 hT ht).2 hs
  have e0 : (nI 0 = nI 0) = True := eq_true rfl
  simp only [f_X7_takeSign, r_o7, i1, e0, rg_I, ht.2.1, nlit, x_fail, zB_0', ↓reduceIte, Option.bind_some]
theorem x_takeNumber_s {p : Nat} {lo hi : Int32} (hp : p ≤ len) (hT : TxtB B b len) (ht : TokAt V b len p) (hk : tkK b len (skp b len p) ≠ 1) : f_X7_takeNumber N q lo hi (rset h q g V B cz C) = some (nI 0, rset h q g (errV V (-nI 2) (skp b len p)) B cz C) := by
  have hk4 := tkK_lt b len (skp b len p)
  obtain ⟨t3, t5, t4, t6, t7⟩ := id ht
  simp (disch := omega) only [f_X7_takeNumber, r_o7, rg_I, t4, t5, nlit, neqF, x_fail, zB_0', ↓reduceIte, Option.bind_some]
theorem x_takeNumber_r {p lo hi1 : Nat} {hi : Int32} (hlo : lo ≤ 1000) (hhi : ∀ v, v < 2 ^ 30 → (nI v ≤ hi) = (v < hi1)) (hp : p ≤ len) (hT : TxtB B b len) (ht : TokAt V b len p) (hk : tkK b len (skp b len p) = 1) (hv : tkV b len (skp b len p) < lo ∨ hi1 ≤ tkV b len (skp b len p)) : f_X7_takeNumber N q (nI lo) hi (rset h q g V B cz C) = some (nI 0, rset h q g (errV V (-nI 3) (skp b len p)) B cz C) := by
  have tb := tk_bounds (b := b) (skp_le (b := b) hp).2
  obtain ⟨t3, t5, t4, t6, t7⟩ := id ht
  rw [hk] at t4
  by_cases h1 : tkV b len (skp b len p) < lo
  · simp (disch := omega) only [f_X7_takeNumber, f_X7_takeNumber_j35, r_o7, rg_I, t4, t5, t7, nlit, neqT, nltT, x_fail, zB_0', ↓reduceIte, Option.bind_some]
  · have e1 : (nI (tkV b len (skp b len p)) ≤ hi) = False := (hhi _ (by omega)).trans (eq_false (by omega))
    simp (disch := omega) only [f_X7_takeNumber, f_X7_takeNumber_j35, r_o7, rg_I, t4, t5, t7, nlit, neqT, nltF, e1, x_fail, zB_0', ↓reduceIte, Option.bind_some]
theorem x_takeNumber_y {p lo hi1 : Nat} {hi : Int32} (hNN : 1000 < N) (hlo : lo ≤ 1000) (hhi : ∀ v, v < 2 ^ 30 → (nI v ≤ hi) = (v < hi1)) (hp : p ≤ len) (hT : TxtB B b len) (ht : TokAt V b len p) (hk : tkK b len (skp b len p) = 1) (h1 : lo ≤ tkV b len (skp b len p)) (h2 : tkV b len (skp b len p) < hi1) : ∃ V', f_X7_takeNumber N q (nI lo) hi (rset h q g V B cz C) = some (nI 1, rset h q g V' B cz C) ∧ TokAt V' b len (tkE b len (skp b len p)) ∧ V45 V V' ∧ V' 8 = nI (tkV b len (skp b len p)) := by
  have tb := tk_bounds (b := b) (skp_le (b := b) hp).2
  obtain ⟨t3, t5, t4, t6, t7⟩ := id ht
  rw [hk] at t4
  have e1 : (nI (tkV b len (skp b len p)) ≤ hi) = True := (hhi _ (by omega)).trans (eq_true h2)
  obtain ⟨V', a1, a2, a3⟩ := x_advance (N := N) (h := h) (q := q) (g := g) (cz := cz) (C := C) (V := upd V 8 (nI (tkV b len (skp b len p)))) (p := tkE b len (skp b len p)) hNN hT (by rw [upS_ne (by omega)]; exact t3) (by rw [upS_ne (by omega)]; exact t6) tb.2.1
  refine ⟨V', ?_, a2, fun k k4 k5 k6 k7 k8 => (a3 k k4 k5 k6 k7).trans (upS_ne k8), (a3 8 (by omega) (by omega) (by omega) (by omega)).trans (upS_eq _ _ _)⟩
  simp (disch := omega) only [f_X7_takeNumber, r_o7, rg_I, t4, t7, nlit, neqT, nltF, e1, rp_I, a1, ↓reduceIte, Option.bind_some]
end M99985

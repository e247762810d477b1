def isDg (c : Nat) : Bool := Nat.ble 48 c && Nat.ble c 57
def isLt (c : Nat) : Bool := Nat.ble 97 c && Nat.ble c 122
def vstep (v c : Nat) : Nat := min 1000000 (10 * v + c - 48)
def skF (b : Nat → Nat) : Nat → Nat → Nat
  | 0, p => p
  | r + 1, p => if b p = 32 then skF b r (p + 1) else p
def dgF (b : Nat → Nat) : Nat → Nat → Nat → Nat × Nat
  | 0, p, v => (p, v)
  | r + 1, p, v => if isDg (b p) = true then dgF b r (p + 1) (vstep v (b p)) else (p, v)
def ltF (b : Nat → Nat) : Nat → Nat → Nat
  | 0, p => p
  | r + 1, p => if isLt (b p) = true then ltF b r (p + 1) else p
def skp (b : Nat → Nat) (len p : Nat) : Nat := skF b (len - p) p
def dgs (b : Nat → Nat) (len p : Nat) : Nat × Nat := dgF b (len - p) p 0
def lts (b : Nat → Nat) (len p : Nat) : Nat := ltF b (len - p) p
def tkK (b : Nat → Nat) (len q : Nat) : Nat := if len ≤ q then 0 else if isDg (b q) = true then 1 else if isLt (b q) = true then 2 else 3
def tkE (b : Nat → Nat) (len q : Nat) : Nat := if len ≤ q then q else if isDg (b q) = true then (dgs b len q).1 else if isLt (b q) = true then lts b len q else q + 1
def tkV (b : Nat → Nat) (len q : Nat) : Nat := if len ≤ q then 0 else if isDg (b q) = true then (dgs b len q).2 else 0
theorem skF_le (b : Nat → Nat) : ∀ r p, p ≤ skF b r p ∧ skF b r p ≤ p + r
  | 0, p => ⟨Nat.le_refl p, Nat.le_refl p⟩
  | r + 1, p => by
    unfold skF
    split
    · have := skF_le b r (p + 1); omega
    · omega
theorem ltF_le (b : Nat → Nat) : ∀ r p, p ≤ ltF b r p ∧ ltF b r p ≤ p + r
  | 0, p => ⟨Nat.le_refl p, Nat.le_refl p⟩
  | r + 1, p => by
    unfold ltF
    split
    · have := ltF_le b r (p + 1); omega
    · omega
theorem dgF_le (b : Nat → Nat) : ∀ r p v, v ≤ 1000000 → p ≤ (dgF b r p v).1 ∧ (dgF b r p v).1 ≤ p + r ∧ (dgF b r p v).2 ≤ 1000000
  | 0, p, v, hv => ⟨Nat.le_refl p, Nat.le_refl p, hv⟩
  | r + 1, p, v, hv => by
    unfold dgF
    split
    · have := dgF_le b r (p + 1) (vstep v (b p)) (Nat.min_le_left _ _); omega
    · exact ⟨Nat.le_refl p, Nat.le_add_right _ _, hv⟩
theorem skp_le {b : Nat → Nat} {len p : Nat} (hp : p ≤ len) : p ≤ skp b len p ∧ skp b len p ≤ len := by
  have := skF_le b (len - p) p
  unfold skp
  omega
theorem tk_bounds {b : Nat → Nat} {len q : Nat} (hq : q ≤ len) : q ≤ tkE b len q ∧ tkE b len q ≤ len ∧ tkV b len q ≤ 1000000 ∧ (q < len → q < tkE b len q) := by
  unfold tkE tkV
  by_cases h1 : len ≤ q
  · rw [if_pos h1, if_pos h1]; omega
  · rw [if_neg h1, if_neg h1]
    obtain ⟨r, hr⟩ : ∃ r, len - q = r + 1 := ⟨len - q - 1, by omega⟩
    by_cases h2 : isDg (b q) = true
    · rw [if_pos h2, if_pos h2]
      unfold dgs
      rw [hr]
      unfold dgF
      rw [if_pos h2]
      have := dgF_le b r (q + 1) (vstep 0 (b q)) (Nat.min_le_left _ _)
      omega
    · rw [if_neg h2, if_neg h2]
      by_cases h3 : isLt (b q) = true
      · rw [if_pos h3]
        unfold lts
        rw [hr]
        unfold ltF
        rw [if_pos h3]
        have := ltF_le b r (q + 1)
        omega
      · rw [if_neg h3]; omega
/-- the class's token is that of the text from p on -/
def TokAt (V : Nat → Int32) (b : Nat → Nat) (len p : Nat) : Prop := V 3 = nI len ∧ V 5 = nI (skp b len p) ∧ V 4 = nI (tkK b len (skp b len p)) ∧ V 6 = nI (tkE b len (skp b len p)) ∧ V 7 = nI (tkV b len (skp b len p))
def TxtB (B : Nat → Int32) (b : Nat → Nat) (len : Nat) : Prop := len ≤ 700 ∧ ∀ k, k < len → b k < 256 ∧ B k = nI (b k)
section M99984
variable {h : zH} {q g N : Nat} {V B C : Nat → Int32} {cz : Int32} {b : Nat → Nat} {len : Nat}
theorem x_isDigit {c : Nat} {k : zH} (hc : c < 256) : f_X7_isDigit N (nI c) k = some (b2 (isDg c), k) := by
  unfold isDg
  by_cases h1 : c < 48
  · have e1 : Nat.ble 48 c = false := by rw [← Bool.not_eq_true, Nat.ble_eq]; omega
    rw [e1]
    simp (disch := omega) only [f_X7_isDigit, nlit, nltT, ↓reduceIte]
    rfl
  · have e1 : Nat.ble 48 c = true := by rw [Nat.ble_eq]; omega
    rw [e1]
    by_cases h2 : 57 < c
    · have e2 : Nat.ble c 57 = false := by rw [← Bool.not_eq_true, Nat.ble_eq]; omega
      rw [e2]
      simp (disch := omega) only [f_X7_isDigit, nlit, nltT, nltF, ↓reduceIte]
      rfl
    · have e2 : Nat.ble c 57 = true := by rw [Nat.ble_eq]; omega
      rw [e2]
      simp (disch := omega) only [f_X7_isDigit, nlit, nltF, ↓reduceIte]
      rfl
theorem x_isLetter {c : Nat} {k : zH} (hc : c < 256) : f_X7_isLetter N (nI c) k = some (b2 (isLt c), k) := by
  unfold isLt
  by_cases h1 : c < 97
  · have e1 : Nat.ble 97 c = false := by rw [← Bool.not_eq_true, Nat.ble_eq]; omega
    rw [e1]
    simp (disch := omega) only [f_X7_isLetter, nlit, nltT, ↓reduceIte]
    rfl
  · have e1 : Nat.ble 97 c = true := by rw [Nat.ble_eq]; omega
    rw [e1]
    by_cases h2 : 122 < c
    · have e2 : Nat.ble c 122 = false := by rw [← Bool.not_eq_true, Nat.ble_eq]; omega
      rw [e2]
      simp (disch := omega) only [f_X7_isLetter, nlit, nltT, nltF, ↓reduceIte]
      rfl
    · have e2 : Nat.ble c 122 = true := by rw [Nat.ble_eq]; omega
      rw [e2]
      simp (disch := omega) only [f_X7_isLetter, nlit, nltF, ↓reduceIte]
      rfl
theorem x_skip {k1 : Int32 → zH → Option zH} (hT : TxtB B b len) (h3 : V 3 = nI len) : ∀ (r p fuel : Nat), p + r = len → r < fuel → f_X7_advance_l5 N q k1 fuel (nI p) (rset h q g V B cz C) = k1 (nI (skF b r p)) (rset h q g V B cz C) := by
  obtain ⟨hl, ht⟩ := hT
  intro r
  induction r with
  | zero =>
    intro p fuel hp hf
    obtain ⟨fuel, rfl⟩ : ∃ m, fuel = m + 1 := ⟨fuel - 1, by omega⟩
    simp (disch := omega) only [f_X7_advance_l5, rg_I, h3, nleT, ↓reduceIte, Option.bind_some]
    rfl
  | succ r ih =>
    intro p fuel hp hf
    obtain ⟨fuel, rfl⟩ : ∃ m, fuel = m + 1 := ⟨fuel - 1, by omega⟩
    obtain ⟨t1, t2⟩ := ht p (by omega)
    have e : skF b (r + 1) p = if b p = 32 then skF b r (p + 1) else p := rfl
    rw [e]
    by_cases hb : b p = 32
    · rw [if_pos hb, ← ih (p + 1) fuel (by omega) (by omega)]
      simp (disch := omega) only [f_X7_advance_l5, rg_I, rg_A, h3, r_ldB, t2, hb, nlit, nleF, neqT, nadd, ↓reduceIte, Option.bind_some]
    · rw [if_neg hb]
      simp (disch := omega) only [f_X7_advance_l5, rg_I, rg_A, h3, r_ldB, t2, nlit, nleF, neqF, ↓reduceIte, Option.bind_some]
theorem x_digits {k1 : Int32 → zH → Option zH} (hT : TxtB B b len) : ∀ (r p fuel v : Nat) (V : Nat → Int32), p + r = len → r < fuel → v ≤ 1000000 → V 3 = nI len → V 7 = nI v → f_X7_advance_l140 N q (nI 1) k1 fuel (nI p) (rset h q g V B cz C) = k1 (nI (dgF b r p v).1) (rset h q g (upd V 7 (nI (dgF b r p v).2)) B cz C) := by
  obtain ⟨hl, ht⟩ := hT
  have e0 : (nI 1 = nI 0) = False := eq_false (by decide)
  intro r
  induction r with
  | zero =>
    intro p fuel v V hp hf hv h3 h7
    obtain ⟨fuel, rfl⟩ : ∃ m, fuel = m + 1 := ⟨fuel - 1, by omega⟩
    have e : dgF b 0 p v = (p, v) := rfl
    rw [e, upS_same h7]
    simp (disch := omega) only [f_X7_advance_l140, rg_I, h3, nleT, ↓reduceIte, Option.bind_some]
  | succ r ih =>
    intro p fuel v V hp hf hv h3 h7
    obtain ⟨fuel, rfl⟩ : ∃ m, fuel = m + 1 := ⟨fuel - 1, by omega⟩
    obtain ⟨t1, t2⟩ := ht p (by omega)
    have d1 := x_isDigit (N := N) (k := rset h q g V B cz C) t1
    have e : dgF b (r + 1) p v = if isDg (b p) = true then dgF b r (p + 1) (vstep v (b p)) else (p, v) := rfl
    rw [e]
    by_cases hb : isDg (b p) = true
    · have c48 : 48 ≤ b p ∧ b p ≤ 57 := by
        unfold isDg at hb
        rw [Bool.and_eq_true, Nat.ble_eq, Nat.ble_eq] at hb
        exact hb
      rw [if_pos hb]
      have i1 := ih (p + 1) fuel (vstep v (b p)) (upd V 7 (nI (vstep v (b p)))) (by omega) (by omega) (Nat.min_le_left _ _) (by rw [upS_ne (by omega)]; exact h3) (upS_eq _ _ _)
      rw [upS_upS] at i1
      rw [← i1]
      rw [hb] at d1
      have m1 := x_min (N := N) (x := 1000000) (y := 10 * v + b p - 48) (k := rset h q g V B cz C) (by omega) (by omega)
      have a1 : nI v * nI 10 + nI (b p) - nI 48 = nI (10 * v + b p - 48) := by rw [nmul, nadd, nsub (by omega), Nat.mul_comm]
      unfold vstep
      simp (disch := omega) only [f_X7_advance_l140, rg_I, rg_A, h3, h7, r_ldB, t2, d1, b2_t', e0, zjn, nlit, nleF, a1, m1, rp_I, nadd, ↓reduceIte, Option.bind_some]
    · rw [if_neg hb, upS_same h7]
      rw [Bool.not_eq_true] at hb
      rw [hb] at d1
      have e00 : (nI 0 = nI 0) = True := eq_true rfl
      simp (disch := omega) only [f_X7_advance_l140, rg_I, rg_A, h3, r_ldB, t2, d1, b2_f', e0, e00, zjn, nlit, nleF, ↓reduceIte, Option.bind_some]
theorem x_letters {k1 : Int32 → zH → Option zH} (hT : TxtB B b len) (h3 : V 3 = nI len) (h7 : V 7 = nI 0) : ∀ (r p fuel : Nat), p + r = len → r < fuel → f_X7_advance_l140 N q (nI 0) k1 fuel (nI p) (rset h q g V B cz C) = k1 (nI (ltF b r p)) (rset h q g V B cz C) := by
  obtain ⟨hl, ht⟩ := hT
  have e00 : (nI 0 = nI 0) = True := eq_true rfl
  have e0 : (nI 1 = nI 0) = False := eq_false (by decide)
  intro r
  induction r with
  | zero =>
    intro p fuel hp hf
    obtain ⟨fuel, rfl⟩ : ∃ m, fuel = m + 1 := ⟨fuel - 1, by omega⟩
    simp (disch := omega) only [f_X7_advance_l140, rg_I, h3, nleT, ↓reduceIte, Option.bind_some]
    rfl
  | succ r ih =>
    intro p fuel hp hf
    obtain ⟨fuel, rfl⟩ : ∃ m, fuel = m + 1 := ⟨fuel - 1, by omega⟩
    obtain ⟨t1, t2⟩ := ht p (by omega)
    have d1 := x_isLetter (N := N) (k := rset h q g V B cz C) t1
    have e : ltF b (r + 1) p = if isLt (b p) = true then ltF b r (p + 1) else p := rfl
    rw [e]
    by_cases hb : isLt (b p) = true
    · rw [if_pos hb, ← ih (p + 1) fuel (by omega) (by omega)]
      rw [hb] at d1
      have p7 : pF (rset h q g V B cz C) q 7 7 (.int (nI 0)) = some (rset h q g V B cz C) := by rw [rp_7, upS_same h7]
      simp (disch := omega) only [f_X7_advance_l140, rg_I, rg_A, h3, r_ldB, t2, d1, b2_t', e0, e00, zjn, nlit, nleF, p7, nadd, ↓reduceIte, Option.bind_some]
    · rw [if_neg hb]
      rw [Bool.not_eq_true] at hb
      rw [hb] at d1
      simp (disch := omega) only [f_X7_advance_l140, rg_I, rg_A, h3, r_ldB, t2, d1, b2_f', e00, zjn, nlit, nleF, ↓reduceIte, Option.bind_some]
theorem x_advance {p : Nat} (hNN : 1000 < N) (hT : TxtB B b len) (h3 : V 3 = nI len) (h6 : V 6 = nI p) (hp : p ≤ len) : ∃ V' : Nat → Int32, f_X7_advance N q (rset h q g V B cz C) = some (rset h q g V' B cz C) ∧ TokAt V' b len p ∧ ∀ k, k ≠ 4 → k ≠ 5 → k ≠ 6 → k ≠ 7 → V' k = V k := by
  have hl := hT.1
  obtain ⟨s1, s2⟩ := skp_le (b := b) hp
  have sk := fun k1 => x_skip (N := N) (h := h) (q := q) (g := g) (V := V) (cz := cz) (C := C) (k1 := k1) hT h3 (len - p) p N (by omega) (by omega)
  have es : skF b (len - p) p = skp b len p := rfl
  rw [es] at sk
  have e0 : (nI 1 = nI 0) = False := eq_false (by decide)
  have e00 : (nI 0 = nI 0) = True := eq_true rfl
  have u4 : ∀ (V : Nat → Int32) (x y z w : Int32), (upd (upd (upd (upd V 5 x) 7 y) 4 z) 6 w) 3 = V 3 := fun V x y z w => by rw [upS_ne (by omega), upS_ne (by omega), upS_ne (by omega), upS_ne (by omega)]
  have fin : ∀ (y z w : Int32), y = nI (tkV b len (skp b len p)) → z = nI (tkK b len (skp b len p)) → w = nI (tkE b len (skp b len p)) → TokAt (upd (upd (upd (upd V 5 (nI (skp b len p))) 7 y) 4 z) 6 w) b len p ∧ ∀ k, k ≠ 4 → k ≠ 5 → k ≠ 6 → k ≠ 7 → (upd (upd (upd (upd V 5 (nI (skp b len p))) 7 y) 4 z) 6 w) k = V k := by
    intro y z w hy hz hw
    refine ⟨⟨(u4 _ _ _ _ _).trans h3, ?_, ?_, ?_, ?_⟩, fun k k4 k5 k6 k7 => ?_⟩
    · rw [upS_ne (by omega), upS_ne (by omega), upS_ne (by omega), upS_eq]
    · rw [upS_ne (by omega), upS_eq]; exact hz
    · rw [upS_eq]; exact hw
    · rw [upS_ne (by omega), upS_ne (by omega), upS_eq]; exact hy
    · rw [upS_ne k6, upS_ne k4, upS_ne k7, upS_ne k5]
  generalize hQ : skp b len p = Q at *
  by_cases hq : len ≤ Q
  · obtain ⟨f1, f2⟩ := fin (nI 0) (nI 0) (nI Q) (by unfold tkV; rw [if_pos hq]) (by unfold tkK; rw [if_pos hq]) (by unfold tkE; rw [if_pos hq])
    refine ⟨_, ?_, f1, f2⟩
    unfold f_X7_advance
    simp (disch := omega) only [rg_I, h6, Option.bind_some]
    rw [sk]
    simp (disch := omega) only [f_X7_advance_j67, nlit, rp_I, rg_I, upS_ne, h3, nleT, ↓reduceIte, Option.bind_some]
  · obtain ⟨t1, t2⟩ := hT.2 Q (by omega)
    have dd := fun (V : Nat → Int32) => x_isDigit (N := N) (k := rset h q g V B cz C) t1
    have dl := fun (V : Nat → Int32) => x_isLetter (N := N) (k := rset h q g V B cz C) t1
    by_cases hd : isDg (b Q) = true
    · obtain ⟨f1, f2⟩ := fin (nI (dgs b len Q).2) (nI 1) (nI (dgs b len Q).1) (by unfold tkV; rw [if_neg hq, if_pos hd]) (by unfold tkK; rw [if_neg hq, if_pos hd]) (by unfold tkE; rw [if_neg hq, if_pos hd])
      refine ⟨_, ?_, f1, f2⟩
      rw [hd] at dd
      have dg := fun k1 => x_digits (N := N) (h := h) (q := q) (g := g) (cz := cz) (C := C) (k1 := k1) hT (len - Q) Q N 0 (upd (upd (upd V 5 (nI Q)) 7 (nI 0)) 4 (nI 1)) (by omega) (by omega) (by omega) (by rw [upS_ne (by omega), upS_ne (by omega), upS_ne (by omega)]; exact h3) (by rw [upS_ne (by omega), upS_eq])
      have eu : upd (upd (upd (upd V 5 (nI Q)) 7 (nI 0)) 4 (nI 1)) 7 (nI (dgF b (len - Q) Q 0).2) = upd (upd (upd V 5 (nI Q)) 7 (nI (dgs b len Q).2)) 4 (nI 1) := by
        funext k
        show upd (upd (upd (upd V 5 (nI Q)) 7 (nI 0)) 4 (nI 1)) 7 (nI (dgs b len Q).2) k = _
        by_cases k7 : k = 7
        · subst k7; rw [upS_eq, upS_ne (by omega), upS_eq]
        · by_cases k4 : k = 4
          · subst k4; rw [upS_ne (by omega), upS_eq, upS_eq]
          · rw [upS_ne k7, upS_ne k4, upS_ne k7, upS_ne k4, upS_ne k7]
      rw [eu] at dg
      unfold f_X7_advance
      simp (disch := omega) only [rg_I, h6, Option.bind_some]
      rw [sk]
      simp (disch := omega) only [f_X7_advance_j107, f_X7_advance_j139, nlit, rp_I, rg_I, rg_A, upS_eq, upS_ne, upS_upS, h3, r_ldB, t2, dd, b2_t', e0, nleF, nltT, neqF, neqT, ↓reduceIte, Option.bind_some]
      rw [dg]
      simp (disch := omega) only [rp_I, Option.bind_some]
      rfl
    · by_cases hL : isLt (b Q) = true
      · obtain ⟨f1, f2⟩ := fin (nI 0) (nI 2) (nI (lts b len Q)) (by unfold tkV; rw [if_neg hq, if_neg hd]) (by unfold tkK; rw [if_neg hq, if_neg hd, if_pos hL]) (by unfold tkE; rw [if_neg hq, if_neg hd, if_pos hL])
        refine ⟨_, ?_, f1, f2⟩
        rw [Bool.not_eq_true] at hd
        rw [hd] at dd
        rw [hL] at dl
        have lg := fun k1 => x_letters (N := N) (h := h) (q := q) (g := g) (cz := cz) (C := C) (k1 := k1) (V := upd (upd (upd V 5 (nI Q)) 7 (nI 0)) 4 (nI 2)) hT (by rw [upS_ne (by omega), upS_ne (by omega), upS_ne (by omega)]; exact h3) (by rw [upS_ne (by omega), upS_eq]) (len - Q) Q N (by omega) (by omega)
        unfold f_X7_advance
        simp (disch := omega) only [rg_I, h6, Option.bind_some]
        rw [sk]
        simp (disch := omega) only [f_X7_advance_j107, f_X7_advance_j139, nlit, rp_I, rg_I, rg_A, upS_eq, upS_ne, upS_upS, h3, r_ldB, t2, dd, dl, b2_t', b2_f', e0, e00, nleF, nltT, neqF, neqT, ↓reduceIte, Option.bind_some]
        rw [lg]
        simp (disch := omega) only [rp_I, Option.bind_some]
        rfl
      · obtain ⟨f1, f2⟩ := fin (nI 0) (nI 3) (nI (Q + 1)) (by unfold tkV; rw [if_neg hq, if_neg hd]) (by unfold tkK; rw [if_neg hq, if_neg hd, if_neg hL]) (by unfold tkE; rw [if_neg hq, if_neg hd, if_neg hL])
        refine ⟨_, ?_, f1, f2⟩
        rw [Bool.not_eq_true] at hd hL
        rw [hd] at dd
        rw [hL] at dl
        unfold f_X7_advance
        simp (disch := omega) only [rg_I, h6, Option.bind_some]
        rw [sk]
        simp (disch := omega) only [f_X7_advance_j107, nlit, rp_I, rg_I, rg_A, upS_eq, upS_ne, upS_upS, h3, r_ldB, t2, dd, dl, b2_f', e00, nleF, nltT, neqT, nadd, ↓reduceIte, Option.bind_some]
end M99984

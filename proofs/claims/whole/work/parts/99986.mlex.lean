/-! ===== the model takes tokens ===== -/
theorem m1lt : ((-nI 1 : Int32) < nI 0) = True := eq_true (by decide)
theorem m1ne {c : Nat} (hc : c < 2 ^ 31) : ((-nI 1 : Int32) = nI c) = False := eq_false fun e => by
  have h1 : (-nI 1 : Int32) < nI 0 := of_eq_true m1lt
  rw [e] at h1
  exact nI_nn hc h1
def nxt (b : Nat → Nat) (len k : Nat) : Int32 := if k < len then nI (b k) else -nI 1
/-- what a step of the parser keeps of the model's numbers -/
def SK (S S' : Nat → Int32) : Prop := ∀ k, k ≠ 4 → k ≠ 5 → k ≠ 6 → k ≠ 12 → S' k = S k
theorem SK_rf (S : Nat → Int32) : SK S S := fun _ _ _ _ _ => rfl
theorem SK_tr {S S' S'' : Nat → Int32} (h1 : SK S S') (h2 : SK S' S'') : SK S S'' := fun k a b c d => (h2 k a b c d).trans (h1 k a b c d)
def mErr (S : Nat → Int32) (p : Nat) (code : Int32) (off : Nat) : Nat → Int32 := upd (upd (upd S 4 (nI p)) 5 code) 6 (nI off)
theorem SK_err {S : Nat → Int32} {p off : Nat} {code : Int32} : SK S (mErr S p code off) := fun k a b c d => by
  unfold mErr
  rw [upS_ne c, upS_ne b, upS_ne a]
theorem SK_4 {S : Nat → Int32} {x : Int32} : SK S (upd S 4 x) := fun k a _ _ _ => upS_ne a
theorem skp_at {b : Nat → Nat} : ∀ r p, skF b r p < p + r → b (skF b r p) ≠ 32
  | 0, p, h => absurd h (Nat.lt_irrefl p)
  | r + 1, p, h => by
    have e : skF b (r + 1) p = if b p = 32 then skF b r (p + 1) else p := rfl
    rw [e] at h ⊢
    by_cases hb : b p = 32
    · rw [if_pos hb] at h ⊢
      exact skp_at r (p + 1) (by omega)
    · rw [if_neg hb]
      exact hb
theorem skp_skp {b : Nat → Nat} {len p : Nat} (hp : p ≤ len) : skp b len (skp b len p) = skp b len p := by
  have h1 := skp_le (b := b) hp
  have h2 := skp_at (b := b) (len - p) p
  have hd : skp b len p = skF b (len - p) p := rfl
  rw [← hd] at h2
  show skF b (len - skp b len p) (skp b len p) = skp b len p
  by_cases h3 : skp b len p = len
  · rw [h3, Nat.sub_self]
    rfl
  · obtain ⟨r, hr⟩ : ∃ r, len - skp b len p = r + 1 := ⟨len - skp b len p - 1, by omega⟩
    rw [hr]
    exact if_neg (h2 (by omega))
section M99986
variable {h : zH} {m N : Nat} {S B D E : Nat → Int32} {H : Nat → Nat → Int32} {J : Nat → Int64} {L U Z W : Nat → Int32} {b : Nat → Nat} {len : Nat}
theorem m_byteAt {k : Nat} (hT : TxtB B b len) (h3 : S 3 = nI len) (hk : k < 2 ^ 31) : f_X9_byteAt N m (nI k) (mset h m S B D E H J L U Z W) = some (nxt b len k, mset h m S B D E H J L U Z W) := by
  have hl := hT.1
  unfold nxt
  by_cases hlt : k < len
  · obtain ⟨b1, b2'⟩ := hT.2 k hlt
    rw [if_pos hlt]
    simp (disch := omega) only [f_X9_byteAt, gI_ms, gA_ms, h3, nleF, ldI_ms, b2', ↓reduceIte, Option.bind_some]
  · rw [if_neg hlt]
    simp (disch := omega) only [f_X9_byteAt, gI_ms, h3, nleT, nlit, ↓reduceIte, Option.bind_some]
theorem nxt_y {k : Nat} (hk : k < len) : nxt b len k = nI (b k) := if_pos hk
theorem nxt_n {k : Nat} (hk : ¬ k < len) : nxt b len k = -nI 1 := if_neg hk
theorem nxt_T {k c : Nat} (hs : sgAt b len k c) : (nxt b len k = nI c) = True := by
  rw [nxt_y hs.1, hs.2]
  exact eq_true rfl
theorem nxt_F {B : Nat → Int32} {k c : Nat} (hT : TxtB B b len) (hc : c < 256) (hs : ¬ sgAt b len k c) : (nxt b len k = nI c) = False := by
  by_cases hk : k < len
  · rw [nxt_y hk]
    obtain ⟨b1, -⟩ := hT.2 k hk
    exact neqF (by omega) (by omega) (fun e => hs ⟨hk, e⟩)
  · rw [nxt_n hk]
    exact m1ne (by omega)
theorem m_next_l {k1 : zH → Option (Int32 × zH)} (hT : TxtB B b len) : ∀ (r p fuel : Nat) (S : Nat → Int32), p + r = len → r < fuel → S 3 = nI len → S 4 = nI p → f_X9_next_l0 N m k1 fuel (mset h m S B D E H J L U Z W) = k1 (mset h m (upd S 4 (nI (skF b r p))) B D E H J L U Z W) := by
  have hl := hT.1
  intro r
  induction r with
  | zero =>
    intro p fuel S hp hf h3 h4
    obtain ⟨fuel, rfl⟩ : ∃ m, fuel = m + 1 := ⟨fuel - 1, by omega⟩
    have e : skF b 0 p = p := rfl
    rw [e, upS_same h4]
    have by1 := m_byteAt (N := N) (h := h) (m := m) (D := D) (E := E) (H := H) (J := J) (L := L) (U := U) (Z := Z) (W := W) (k := p) hT h3 (by omega)
    rw [nxt_n (by omega)] at by1
    have ne : (-nI 1 = nI 32) = False := m1ne (by omega)
    simp (disch := omega) only [f_X9_next_l0, onO_ms, gI_ms, h4, by1, nlit, ne, ↓reduceIte, Option.bind_some]
  | succ r ih =>
    intro p fuel S hp hf h3 h4
    obtain ⟨fuel, rfl⟩ : ∃ m, fuel = m + 1 := ⟨fuel - 1, by omega⟩
    have e : skF b (r + 1) p = if b p = 32 then skF b r (p + 1) else p := rfl
    have by1 := m_byteAt (N := N) (h := h) (m := m) (D := D) (E := E) (H := H) (J := J) (L := L) (U := U) (Z := Z) (W := W) (k := p) hT h3 (by omega)
    rw [nxt_y (by omega)] at by1
    obtain ⟨b1, -⟩ := hT.2 p (by omega)
    rw [e]
    by_cases hb : b p = 32
    · rw [if_pos hb]
      have i1 := ih (p + 1) fuel (upd S 4 (nI (p + 1))) (by omega) (by omega) (by rw [upS_ne (by omega)]; exact h3) (upS_eq _ _ _)
      rw [upS_upS] at i1
      rw [← i1]
      simp (disch := omega) only [f_X9_next_l0, onO_ms, gI_ms, pF_ms, h4, by1, nlit, neqT, nadd, ↓reduceIte, Option.bind_some]
    · rw [if_neg hb, upS_same h4]
      simp (disch := omega) only [f_X9_next_l0, onO_ms, gI_ms, pF_ms, h4, by1, nlit, neqF, nadd, ↓reduceIte, Option.bind_some]
theorem m_next {p : Nat} (hNN : 1000 < N) (hT : TxtB B b len) (h3 : S 3 = nI len) (h4 : S 4 = nI p) (hp : p ≤ len) : f_X9_next N m (mset h m S B D E H J L U Z W) = some (nxt b len (skp b len p), mset h m (upd S 4 (nI (skp b len p))) B D E H J L U Z W) := by
  have hl := hT.1
  have s1 := (skp_le (b := b) hp).2
  have hb := m_byteAt (N := N) (h := h) (m := m) (S := upd S 4 (nI (skp b len p))) (D := D) (E := E) (H := H) (J := J) (L := L) (U := U) (Z := Z) (W := W) (k := skp b len p) hT (by rw [upS_ne (by omega)]; exact h3) (by omega)
  rw [f_X9_next, m_next_l hT (len - p) p N S (by omega) (by omega) h3 h4, show skF b (len - p) p = skp b len p from rfl]
  simp (disch := omega) only [onO_ms, gI_ms, upS_eq, hb, Option.bind_some]
theorem m_good (h5 : S 5 = nI 0) : f_X9_isGood N m (mset h m S B D E H J L U Z W) = some (nI 1, mset h m S B D E H J L U Z W) := by
  simp (disch := omega) only [f_X9_isGood, gI_ms, h5, nlit, ↓reduceIte, Option.bind_some]
theorem m_bad (h5 : S 5 ≠ nI 0) : f_X9_isGood N m (mset h m S B D E H J L U Z W) = some (nI 0, mset h m S B D E H J L U Z W) := by
  simp (disch := omega) only [f_X9_isGood, gI_ms, eq_false h5, nlit, ↓reduceIte, Option.bind_some]
theorem m_report {code : Int32} {p off : Nat} (h4 : S 4 = nI p) (h5 : S 5 = nI 0) : f_X9_report N m code (nI off) (mset h m S B D E H J L U Z W) = some (mset h m (mErr S p code off) B D E H J L U Z W) := by
  unfold mErr
  rw [upS_same h4]
  simp (disch := omega) only [f_X9_report, gI_ms, pF_ms, h5, nlit, ↓reduceIte, Option.bind_some]
theorem m_reportB {code off : Int32} (h5 : S 5 ≠ nI 0) : f_X9_report N m code off (mset h m S B D E H J L U Z W) = some (mset h m S B D E H J L U Z W) := by
  simp (disch := omega) only [f_X9_report, gI_ms, pF_ms, eq_false h5, nlit, ↓reduceIte, Option.bind_some]
theorem m_expectB {c : Int32} (h5 : S 5 ≠ nI 0) : f_X9_expect N m c (mset h m S B D E H J L U Z W) = some (mset h m S B D E H J L U Z W) := by
  simp (disch := omega) only [f_X9_expect, onO_ms, m_bad h5, nlit, ↓reduceIte, Option.bind_some]
theorem m_expect_y {p c : Nat} (hNN : 1000 < N) (hT : TxtB B b len) (h3 : S 3 = nI len) (h4 : S 4 = nI p) (h5 : S 5 = nI 0) (hp : p ≤ len) (hs : sgAt b len (skp b len p) c) : f_X9_expect N m (nI c) (mset h m S B D E H J L U Z W) = some (mset h m (upd S 4 (nI (skp b len p + 1))) B D E H J L U Z W) := by
  have e1 : (nI 1 = nI 0) = False := eq_false (by decide)
  rw [← upS_upS S 4 (nI (skp b len p))]
  simp (disch := omega) only [f_X9_expect, onO_ms, gI_ms, pF_ms, m_good h5, e1, m_next hNN hT h3 h4 hp, nxt_T hs, upS_eq, nadd, nlit, ↓reduceIte, Option.bind_some]
theorem m_expect_n {p c : Nat} (hNN : 1000 < N) (hc : c < 256) (hT : TxtB B b len) (h3 : S 3 = nI len) (h4 : S 4 = nI p) (h5 : S 5 = nI 0) (hp : p ≤ len) (hs : ¬ sgAt b len (skp b len p) c) : f_X9_expect N m (nI c) (mset h m S B D E H J L U Z W) = some (mset h m (mErr S (skp b len p) (-nI 2) (skp b len p)) B D E H J L U Z W) := by
  have e1 : (nI 1 = nI 0) = False := eq_false (by decide)
  have r := m_report (N := N) (h := h) (m := m) (B := B) (S := upd S 4 (nI (skp b len p))) (D := D) (E := E) (H := H) (J := J) (L := L) (U := U) (Z := Z) (W := W) (code := -nI 2) (off := skp b len p) (upS_eq _ _ _) (by rw [upS_ne (by omega)]; exact h5)
  have e2 : mErr (upd S 4 (nI (skp b len p))) (skp b len p) (-nI 2) (skp b len p) = mErr S (skp b len p) (-nI 2) (skp b len p) := by
    unfold mErr
    rw [upS_upS]
  rw [e2] at r
  simp (disch := omega) only [f_X9_expect, onO_ms, gI_ms, pF_ms, m_good h5, e1, m_next hNN hT h3 h4 hp, nxt_F hT hc hs, upS_eq, r, nlit, ↓reduceIte, Option.bind_some]
theorem m_isDg {c : Nat} {k : zH} (hc : c < 256) : f_X9_isDigit N (nI c) k = some (b2 (isDg c), k) := by
  unfold isDg
  by_cases h1 : 48 ≤ c
  · by_cases h2 : c ≤ 57
    · have e : (Nat.ble 48 c && Nat.ble c 57) = true := by rw [Bool.and_eq_true, Nat.ble_eq, Nat.ble_eq]; exact ⟨h1, h2⟩
      rw [e]
      simp (disch := omega) only [f_X9_isDigit, f_X9_in, nlit, nltF, zB_1', b2_t', ↓reduceIte, Option.bind_some]
    · have e : (Nat.ble 48 c && Nat.ble c 57) = false := by rw [Bool.and_eq_false_iff]; exact Or.inr (Bool.eq_false_iff.mpr fun h9 => h2 (Nat.ble_eq.mp h9))
      rw [e]
      simp (disch := omega) only [f_X9_isDigit, f_X9_in, nlit, nltF, nltT, zB_0', b2_f', ↓reduceIte, Option.bind_some]
  · have e : (Nat.ble 48 c && Nat.ble c 57) = false := by rw [Bool.and_eq_false_iff]; exact Or.inl (Bool.eq_false_iff.mpr fun h9 => h1 (Nat.ble_eq.mp h9))
    rw [e]
    simp (disch := omega) only [f_X9_isDigit, f_X9_in, nlit, nltF, nltT, zB_0', b2_f', ↓reduceIte, Option.bind_some]
theorem m_isLt {c : Nat} {k : zH} (hc : c < 256) : f_X9_in N (nI c) (nI 97) (nI 122) k = some (b2 (isLt c), k) := by
  unfold isLt
  by_cases h1 : 97 ≤ c
  · by_cases h2 : c ≤ 122
    · have e : (Nat.ble 97 c && Nat.ble c 122) = true := by rw [Bool.and_eq_true, Nat.ble_eq, Nat.ble_eq]; exact ⟨h1, h2⟩
      rw [e]
      simp (disch := omega) only [f_X9_in, nlit, nltF, b2_t', ↓reduceIte, Option.bind_some]
    · have e : (Nat.ble 97 c && Nat.ble c 122) = false := by rw [Bool.and_eq_false_iff]; exact Or.inr (Bool.eq_false_iff.mpr fun h9 => h2 (Nat.ble_eq.mp h9))
      rw [e]
      simp (disch := omega) only [f_X9_in, nlit, nltF, nltT, b2_f', ↓reduceIte, Option.bind_some]
  · have e : (Nat.ble 97 c && Nat.ble c 122) = false := by rw [Bool.and_eq_false_iff]; exact Or.inl (Bool.eq_false_iff.mpr fun h9 => h1 (Nat.ble_eq.mp h9))
    rw [e]
    simp (disch := omega) only [f_X9_in, nlit, nltF, nltT, b2_f', ↓reduceIte, Option.bind_some]
theorem m1lt' {c : Nat} (hc : c < 256) : ((-nI 1 : Int32) < nI c) = True := by
  have h1 : (-nI 1 : Int32) < nI 0 := of_eq_true m1lt
  refine eq_true ?_
  rw [Int32.lt_iff_toInt_lt] at h1 ⊢
  have h2 : ¬ nI c < nI 0 := nI_nn (by omega)
  rw [Int32.lt_iff_toInt_lt] at h2
  omega
/-- a digit's or a letter's next -/
theorem m_dgN {q : Nat} {k : zH} (hT : TxtB B b len) : f_X9_isDigit N (nxt b len q) k = some (b2 (Nat.beq (tkK b len q) 1), k) := by
  unfold tkK
  by_cases hq : q < len
  · obtain ⟨b1, -⟩ := hT.2 q hq
    rw [nxt_y hq, m_isDg b1, if_neg (by omega)]
    cases hd : isDg (b q)
    · rw [if_neg (by decide)]
      split <;> rfl
    · rw [if_pos rfl]
      rfl
  · rw [nxt_n hq, if_pos (by omega)]
    simp (disch := omega) only [f_X9_isDigit, f_X9_in, nlit, m1lt', zB_0', ↓reduceIte, Option.bind_some]
    rfl
theorem m_ltN {q : Nat} {k : zH} (hT : TxtB B b len) : f_X9_in N (nxt b len q) (nI 97) (nI 122) k = some (b2 (Nat.blt q len && isLt (b q)), k) := by
  by_cases hq : q < len
  · obtain ⟨b1, -⟩ := hT.2 q hq
    rw [nxt_y hq, m_isLt b1, Nat.blt_eq.mpr hq]
    rfl
  · rw [nxt_n hq, show Nat.blt q len = false from Bool.eq_false_iff.mpr fun h9 => hq (Nat.blt_eq.mp h9)]
    simp (disch := omega) only [f_X9_in, nlit, m1lt', ↓reduceIte]
    rfl
theorem m_num_l {lo hi : Int32} {k1 : Int32 → zH → Option (Int32 × zH)} (hT : TxtB B b len) : ∀ (r p fuel v : Nat) (S : Nat → Int32), p + r = len → r < fuel → v ≤ 1000000 → S 3 = nI len → S 4 = nI p → f_X9_number_l41 N m lo hi k1 fuel (nI v) (mset h m S B D E H J L U Z W) = k1 (nI (dgF b r p v).2) (mset h m (upd S 4 (nI (dgF b r p v).1)) B D E H J L U Z W) := by
  have hl := hT.1
  have e1 : (nI 1 = nI 0) = False := eq_false (by decide)
  have e0 : (nI 0 = nI 0) = True := eq_true rfl
  intro r
  induction r with
  | zero =>
    intro p fuel v S hp hf hv h3 h4
    obtain ⟨fuel, rfl⟩ : ∃ m, fuel = m + 1 := ⟨fuel - 1, by omega⟩
    have e : dgF b 0 p v = (p, v) := rfl
    rw [e, upS_same h4]
    have by1 := m_byteAt (N := N) (h := h) (m := m) (D := D) (E := E) (H := H) (J := J) (L := L) (U := U) (Z := Z) (W := W) (k := p) hT h3 (by omega)
    have dg := m_dgN (N := N) (q := p) (k := mset h m S B D E H J L U Z W) hT
    have hk : tkK b len p = 0 := if_pos (by omega)
    rw [hk] at dg
    have eb : Nat.beq 0 1 = false := rfl
    simp (disch := omega) only [f_X9_number_l41, onO_ms, gI_ms, h4, by1, dg, eb, b2_f', e0, nlit, ↓reduceIte, Option.bind_some]
  | succ r ih =>
    intro p fuel v S hp hf hv h3 h4
    obtain ⟨fuel, rfl⟩ : ∃ m, fuel = m + 1 := ⟨fuel - 1, by omega⟩
    have e : dgF b (r + 1) p v = if isDg (b p) = true then dgF b r (p + 1) (vstep v (b p)) else (p, v) := rfl
    have by1 := m_byteAt (N := N) (h := h) (m := m) (D := D) (E := E) (H := H) (J := J) (L := L) (U := U) (Z := Z) (W := W) (k := p) hT h3 (by omega)
    rw [nxt_y (by omega)] at by1
    obtain ⟨b1, -⟩ := hT.2 p (by omega)
    have dg := m_isDg (N := N) (k := mset h m S B D E H J L U Z W) b1
    rw [e]
    by_cases hb : isDg (b p) = true
    · have c48 : 48 ≤ b p ∧ b p ≤ 57 := by
        unfold isDg at hb
        rw [Bool.and_eq_true, Nat.ble_eq, Nat.ble_eq] at hb
        exact hb
      rw [if_pos hb]
      rw [hb] at dg
      have i1 := ih (p + 1) fuel (vstep v (b p)) (upd S 4 (nI (p + 1))) (by omega) (by omega) (Nat.min_le_left _ _) (by rw [upS_ne (by omega)]; exact h3) (upS_eq _ _ _)
      rw [upS_upS] at i1
      rw [← i1]
      have a1 : nI 10 * nI v + nI (b p) - nI 48 = nI (10 * v + b p - 48) := by rw [nmul, nadd, nsub (by omega)]
      unfold vstep
      by_cases hm : 1000000 < 10 * v + b p - 48
      · rw [show min 1000000 (10 * v + b p - 48) = 1000000 from Nat.min_eq_left (by omega)]
        simp (disch := omega) only [f_X9_number_l41, f_X9_min, onO_ms, gI_ms, pF_ms, h4, by1, dg, b2_t', e1, a1, nleF, nlit, nadd, ↓reduceIte, Option.bind_some]
      · rw [show min 1000000 (10 * v + b p - 48) = 10 * v + b p - 48 from Nat.min_eq_right (by omega)]
        simp (disch := omega) only [f_X9_number_l41, f_X9_min, onO_ms, gI_ms, pF_ms, h4, by1, dg, b2_t', e1, a1, nleT, nlit, nadd, ↓reduceIte, Option.bind_some]
    · rw [if_neg hb, upS_same h4]
      rw [Bool.not_eq_true] at hb
      rw [hb] at dg
      simp (disch := omega) only [f_X9_number_l41, onO_ms, gI_ms, h4, by1, dg, b2_f', e0, nlit, ↓reduceIte, Option.bind_some]
theorem m_numberB {lo hi : Int32} (h5 : S 5 ≠ nI 0) : f_X9_number N m lo hi (mset h m S B D E H J L U Z W) = some (nI 0, mset h m S B D E H J L U Z W) := by
  simp (disch := omega) only [f_X9_number, onO_ms, m_bad h5, nlit, ↓reduceIte, Option.bind_some]
theorem m_number_s {p : Nat} {lo hi : Int32} (hNN : 1000 < N) (hT : TxtB B b len) (h3 : S 3 = nI len) (h4 : S 4 = nI p) (h5 : S 5 = nI 0) (hp : p ≤ len) (hk : tkK b len (skp b len p) ≠ 1) : f_X9_number N m lo hi (mset h m S B D E H J L U Z W) = some (nI 0, mset h m (mErr S (skp b len p) (-nI 2) (skp b len p)) B D E H J L U Z W) := by
  have e1 : (nI 1 = nI 0) = False := eq_false (by decide)
  have e0 : (nI 0 = nI 0) = True := eq_true rfl
  have r := m_report (N := N) (h := h) (m := m) (B := B) (S := upd S 4 (nI (skp b len p))) (D := D) (E := E) (H := H) (J := J) (L := L) (U := U) (Z := Z) (W := W) (code := -nI 2) (off := skp b len p) (upS_eq _ _ _) (by rw [upS_ne (by omega)]; exact h5)
  have e2 : mErr (upd S 4 (nI (skp b len p))) (skp b len p) (-nI 2) (skp b len p) = mErr S (skp b len p) (-nI 2) (skp b len p) := by
    unfold mErr
    rw [upS_upS]
  rw [e2] at r
  have dg := m_dgN (N := N) (b := b) (len := len) (q := skp b len p) (k := mset h m (upd S 4 (nI (skp b len p))) B D E H J L U Z W) hT
  rw [show Nat.beq (tkK b len (skp b len p)) 1 = false from Bool.eq_false_iff.mpr fun h9 => hk (Nat.beq_eq.mp h9)] at dg
  simp (disch := omega) only [f_X9_number, onO_ms, gI_ms, pF_ms, m_good h5, e1, e0, m_next hNN hT h3 h4 hp, dg, b2_f', upS_eq, r, nlit, ↓reduceIte, Option.bind_some]
theorem tkV_eq {q : Nat} (hk : tkK b len q = 1) : q < len ∧ tkV b len q = (dgs b len q).2 ∧ tkE b len q = (dgs b len q).1 := by
  unfold tkK at hk
  by_cases h1 : len ≤ q
  · rw [if_pos h1] at hk; omega
  · rw [if_neg h1] at hk
    by_cases h2 : isDg (b q) = true
    · refine ⟨by omega, ?_, ?_⟩
      · unfold tkV
        rw [if_neg h1, if_pos h2]
      · unfold tkE
        rw [if_neg h1, if_pos h2]
    · rw [if_neg h2] at hk
      split at hk <;> omega
theorem m_number_y {p lo hi1 : Nat} {hi : Int32} (hNN : 1000 < N) (hlo : lo ≤ 1000) (hhi : ∀ v, v < 2 ^ 30 → (hi < nI v) = (hi1 ≤ v)) (hT : TxtB B b len) (h3 : S 3 = nI len) (h4 : S 4 = nI p) (h5 : S 5 = nI 0) (hp : p ≤ len) (hk : tkK b len (skp b len p) = 1) : ∃ S' : Nat → Int32, f_X9_number N m (nI lo) hi (mset h m S B D E H J L U Z W) = some (nI (tkV b len (skp b len p)), mset h m S' B D E H J L U Z W) ∧ SK S S' ∧ S' 12 = nI (skp b len p) ∧ (lo ≤ tkV b len (skp b len p) → tkV b len (skp b len p) < hi1 → S' 4 = nI (tkE b len (skp b len p)) ∧ S' 5 = nI 0 ∧ S' 6 = S 6) ∧ (tkV b len (skp b len p) < lo ∨ hi1 ≤ tkV b len (skp b len p) → S' 5 = -nI 3 ∧ S' 6 = nI (skp b len p)) := by
  have e1 : (nI 1 = nI 0) = False := eq_false (by decide)
  have e0 : (nI 0 = nI 0) = True := eq_true rfl
  have hl := hT.1
  have s1 := (skp_le (b := b) hp).2
  have tb := tk_bounds (b := b) s1
  obtain ⟨q1, q2, q3⟩ := tkV_eq hk
  have dg := m_dgN (N := N) (b := b) (len := len) (q := skp b len p) (k := mset h m (upd S 4 (nI (skp b len p))) B D E H J L U Z W) hT
  rw [hk, show Nat.beq 1 1 = true from rfl] at dg
  have nl := fun k1 => m_num_l (N := N) (h := h) (m := m) (B := B) (D := D) (E := E) (H := H) (J := J) (L := L) (U := U) (Z := Z) (W := W) (lo := nI lo) (hi := hi) (k1 := k1) hT (len - skp b len p) (skp b len p) N 0 (upd (upd S 4 (nI (skp b len p))) 12 (nI (skp b len p))) (by omega) (by omega) (by omega) (by rw [upS_ne (by omega), upS_ne (by omega)]; exact h3) (by rw [upS_ne (by omega), upS_eq])
  rw [show dgF b (len - skp b len p) (skp b len p) 0 = dgs b len (skp b len p) from rfl, ← q2, ← q3] at nl
  have sk1 : SK S (upd (upd (upd S 4 (nI (skp b len p))) 12 (nI (skp b len p))) 4 (nI (tkE b len (skp b len p)))) := fun k a b' c d => by rw [upS_ne a, upS_ne d, upS_ne a]
  have f12 : upd (upd (upd S 4 (nI (skp b len p))) 12 (nI (skp b len p))) 4 (nI (tkE b len (skp b len p))) 12 = nI (skp b len p) := by rw [upS_ne (by omega), upS_eq]
  have f5 : upd (upd (upd S 4 (nI (skp b len p))) 12 (nI (skp b len p))) 4 (nI (tkE b len (skp b len p))) 5 = nI 0 := by rw [upS_ne (by omega), upS_ne (by omega), upS_ne (by omega), h5]
  have r := m_report (N := N) (h := h) (m := m) (B := B) (D := D) (E := E) (H := H) (J := J) (L := L) (U := U) (Z := Z) (W := W) (code := -nI 3) (off := skp b len p) (upS_eq (upd (upd S 4 (nI (skp b len p))) 12 (nI (skp b len p))) 4 (nI (tkE b len (skp b len p)))) f5
  have hh := hhi (tkV b len (skp b len p)) (by omega)
  by_cases c1 : tkV b len (skp b len p) < lo
  · refine ⟨(mErr (upd (upd (upd S 4 (nI (skp b len p))) 12 (nI (skp b len p))) 4 (nI (tkE b len (skp b len p)))) (tkE b len (skp b len p)) (-nI 3) (skp b len p)), ?_, SK_tr sk1 SK_err, ?_, fun h9 => absurd c1 (by omega), fun _ => ⟨?_, upS_eq _ _ _⟩⟩
    · simp (disch := omega) only [f_X9_number, f_X9_in, onO_ms, gI_ms, pF_ms, m_good h5, e1, e0, m_next hNN hT h3 h4 hp, dg, b2_t', upS_eq, nl, nlit, nltT, f12, r, ↓reduceIte, Option.bind_some]
    · unfold mErr
      rw [upS_ne (by omega), upS_ne (by omega), upS_ne (by omega), f12]
    · unfold mErr
      rw [upS_ne (by omega), upS_eq]
  · by_cases c2 : hi1 ≤ tkV b len (skp b len p)
    · have hh2 := hh.trans (eq_true c2)
      refine ⟨(mErr (upd (upd (upd S 4 (nI (skp b len p))) 12 (nI (skp b len p))) 4 (nI (tkE b len (skp b len p)))) (tkE b len (skp b len p)) (-nI 3) (skp b len p)), ?_, SK_tr sk1 SK_err, ?_, fun _ h9 => absurd c2 (by omega), fun _ => ⟨?_, upS_eq _ _ _⟩⟩
      · simp (disch := omega) only [f_X9_number, f_X9_in, onO_ms, gI_ms, pF_ms, m_good h5, e1, e0, m_next hNN hT h3 h4 hp, dg, b2_t', upS_eq, nl, nlit, nltF, hh2, f12, r, ↓reduceIte, Option.bind_some]
      · unfold mErr
        rw [upS_ne (by omega), upS_ne (by omega), upS_ne (by omega), f12]
      · unfold mErr
        rw [upS_ne (by omega), upS_eq]
    · have hh2 := hh.trans (eq_false c2)
      refine ⟨_, ?_, sk1, f12, fun _ _ => ⟨upS_eq _ _ _, f5, by rw [upS_ne (by omega), upS_ne (by omega), upS_ne (by omega)]⟩, fun h9 => absurd h9 (by omega)⟩
      simp (disch := omega) only [f_X9_number, f_X9_in, onO_ms, gI_ms, pF_ms, m_good h5, e1, e0, m_next hNN hT h3 h4 hp, dg, b2_t', upS_eq, nl, nlit, nltF, hh2, ↓reduceIte, Option.bind_some]
theorem m_tw_l {i q : Nat} {k1 : Int32 → zH → Option (Int32 × zH)} (hi : i < 9) (hT : TxtB B b len) (h3 : S 3 = nI len) (h4 : S 4 = nI q) (hq : q ≤ len) : ∀ (r j fuel : Nat), j + r = wdL i → r < fuel → ∃ j', f_X9_takeWord_l16 N m i k1 fuel (nI j) (mset h m S B D E H J L U Z W) = k1 (nI j') (mset h m S B D E H J L U Z W) ∧ j ≤ j' ∧ j' ≤ wdL i ∧ (∀ x, j ≤ x → x < j' → q + x < len ∧ b (q + x) = wdC i x) ∧ (j' < wdL i → ¬ (q + j' < len ∧ b (q + j') = wdC i j')) := by
  obtain ⟨l1, l2, l3⟩ := wd_ln hi
  have hl := hT.1
  intro r
  induction r with
  | zero =>
    intro j fuel hj hf
    obtain ⟨fuel, rfl⟩ : ∃ m, fuel = m + 1 := ⟨fuel - 1, by omega⟩
    refine ⟨j, ?_, Nat.le_refl j, by omega, fun x h1 h2 => by omega, fun h => by omega⟩
    simp (disch := omega) only [f_X9_takeWord_l16, l1, nleT, nlit, ↓reduceIte, Option.bind_some]
  | succ r ih =>
    intro j fuel hj hf
    obtain ⟨fuel, rfl⟩ : ∃ m, fuel = m + 1 := ⟨fuel - 1, by omega⟩
    obtain ⟨w1, w2⟩ := wd_ch hi (show j < wdL i by omega)
    have w256 : wdC i j < 256 := by
      have := w2
      unfold isLt at this
      rw [Bool.and_eq_true, Nat.ble_eq, Nat.ble_eq] at this
      omega
    have by1 := m_byteAt (N := N) (h := h) (m := m) (D := D) (E := E) (H := H) (J := J) (L := L) (U := U) (Z := Z) (W := W) (k := q + j) hT h3 (by omega)
    by_cases hs : sgAt b len (q + j) (wdC i j)
    · obtain ⟨j', a1, a2, a3, a4, a5⟩ := ih (j + 1) fuel (by omega) (by omega)
      refine ⟨j', ?_, by omega, a3, fun x h1 h2 => ?_, a5⟩
      · rw [← a1]
        simp (disch := omega) only [f_X9_takeWord_l16, onO_ms, gI_ms, h4, l1, w1, by1, nxt_T hs, nleF, nadd, nlit, ↓reduceIte, Option.bind_some]
      · by_cases hx : x = j
        · rw [hx]; exact hs
        · exact a4 x (by omega) h2
    · refine ⟨j, ?_, Nat.le_refl j, by omega, fun x h1 h2 => by omega, fun _ => hs⟩
      simp (disch := omega) only [f_X9_takeWord_l16, onO_ms, gI_ms, h4, l1, w1, by1, nxt_F hT w256 hs, nleF, nadd, nlit, ↓reduceIte, Option.bind_some]
theorem m_takeWordB {i : Nat} (h5 : S 5 ≠ nI 0) : f_X9_takeWord N m i (mset h m S B D E H J L U Z W) = some (nI 0, mset h m S B D E H J L U Z W) := by
  simp (disch := omega) only [f_X9_takeWord, onO_ms, m_bad h5, nlit, ↓reduceIte, Option.bind_some]
theorem m_takeWord {p i : Nat} (hNN : 1000 < N) (hi : i < 9) (hT : TxtB B b len) (h3 : S 3 = nI len) (h4 : S 4 = nI p) (h5 : S 5 = nI 0) (hp : p ≤ len) : (wdAt b len (skp b len p) i → f_X9_takeWord N m i (mset h m S B D E H J L U Z W) = some (nI 1, mset h m (upd S 4 (nI (skp b len p + wdL i))) B D E H J L U Z W)) ∧ (¬ wdAt b len (skp b len p) i → f_X9_takeWord N m i (mset h m S B D E H J L U Z W) = some (nI 0, mset h m (upd S 4 (nI (skp b len p))) B D E H J L U Z W)) := by
  obtain ⟨l1, l2, l3⟩ := wd_ln hi
  have e1 : (nI 1 = nI 0) = False := eq_false (by decide)
  have e0 : (nI 0 = nI 0) = True := eq_true rfl
  have hl := hT.1
  have s1 := (skp_le (b := b) hp).2
  have g3 : upd S 4 (nI (skp b len p)) 3 = nI len := by rw [upS_ne (by omega)]; exact h3
  obtain ⟨j', -, a2, a3, a4, a5⟩ := m_tw_l (N := N) (h := h) (m := m) (B := B) (D := D) (E := E) (H := H) (J := J) (L := L) (U := U) (Z := Z) (W := W) (k1 := fun _ _ => none) hi hT g3 (upS_eq S 4 (nI (skp b len p))) s1 (wdL i) 0 N (by omega) (by omega)
  have tw : ∀ k1 : Int32 → zH → Option (Int32 × zH), f_X9_takeWord_l16 N m i k1 N (nI 0) (mset h m (upd S 4 (nI (skp b len p))) B D E H J L U Z W) = k1 (nI j') (mset h m (upd S 4 (nI (skp b len p))) B D E H J L U Z W) := fun k1 => by
    obtain ⟨j2, c1, c2, c3, c4, c5⟩ := m_tw_l (N := N) (h := h) (m := m) (B := B) (D := D) (E := E) (H := H) (J := J) (L := L) (U := U) (Z := Z) (W := W) (k1 := k1) hi hT g3 (upS_eq S 4 (nI (skp b len p))) s1 (wdL i) 0 N (by omega) (by omega)
    rw [c1]
    rcases Nat.lt_trichotomy j2 j' with h9 | h9 | h9
    · exact absurd (a4 j2 (by omega) h9) (c5 (by omega))
    · rw [h9]
    · exact absurd (c4 j' (by omega) h9) (a5 (by omega))
  have by1 := m_byteAt (N := N) (h := h) (m := m) (S := upd S 4 (nI (skp b len p))) (D := D) (E := E) (H := H) (J := J) (L := L) (U := U) (Z := Z) (W := W) (k := skp b len p + j') hT g3 (by omega)
  have lt1 := m_ltN (N := N) (b := b) (len := len) (q := skp b len p + j') (k := mset h m (upd S 4 (nI (skp b len p))) B D E H J L U Z W) hT
  constructor
  · rintro ⟨w1, w2, w3⟩
    have hj : j' = wdL i := by
      rcases Nat.lt_or_ge j' (wdL i) with h9 | h9
      · exact absurd ⟨by omega, w2 j' h9⟩ (a5 h9)
      · omega
    have lf : (Nat.blt (skp b len p + j') len && isLt (b (skp b len p + j'))) = false := by
      rw [hj]
      cases hb : Nat.blt (skp b len p + wdL i) len
      · rfl
      · have := w3 (Nat.blt_eq.mp hb)
        rw [Bool.not_eq_true] at this
        rw [this]
        rfl
    rw [lf] at lt1
    rw [hj] at lt1 by1 tw
    rw [← upS_upS S 4 (nI (skp b len p))]
    simp (disch := omega) only [f_X9_takeWord, onO_ms, gI_ms, pF_ms, m_good h5, e1, e0, m_next hNN hT h3 h4 hp, tw, l1, nltF, upS_eq, by1, lt1, b2_f', nadd, nlit, ↓reduceIte, Option.bind_some]
  · intro hw
    by_cases hj : j' < wdL i
    · simp (disch := omega) only [f_X9_takeWord, onO_ms, gI_ms, pF_ms, m_good h5, e1, e0, m_next hNN hT h3 h4 hp, tw, l1, nltT, nlit, ↓reduceIte, Option.bind_some]
    · have hj2 : j' = wdL i := by omega
      have lf : (Nat.blt (skp b len p + j') len && isLt (b (skp b len p + j'))) = true := by
        rw [hj2] at a4 ⊢
        refine Decidable.byContradiction fun h9 => hw ⟨?_, fun j hj => (a4 j (by omega) hj).2, fun h8 h7 => h9 ?_⟩
        · have := (a4 (wdL i - 1) (by omega) (by omega)).1
          omega
        · rw [Nat.blt_eq.mpr h8, h7]
          rfl
      rw [lf] at lt1
      simp (disch := omega) only [f_X9_takeWord, onO_ms, gI_ms, pF_ms, m_good h5, e1, e0, m_next hNN hT h3 h4 hp, tw, l1, nltF, upS_eq, by1, lt1, b2_t', nadd, nlit, ↓reduceIte, Option.bind_some]
end M99986

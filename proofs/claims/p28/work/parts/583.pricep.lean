def clJ (v : Int64) : Int64 := if 1000000 < v then 1000000 else if v < -1000000 then -1000000 else v
def divJ (a b : Int64) : Int64 := if b = 0 then 0 else a / b
theorem lgc_le (x y : Int64) : (lg_cmp x y ≤ 0) ↔ x ≤ y := by
  unfold lg_cmp
  by_cases h : x > y
  · rw [if_pos h]
    constructor
    · intro h2; exact absurd h2 (by decide)
    · intro h2; exact absurd h (Int64.not_lt.mpr h2)
  · rw [if_neg h]
    have h3 := Int64.not_lt.mp h
    constructor
    · intro _; exact h3
    · intro _; split <;> decide
theorem lgc_ge (x y : Int64) : (0 ≤ lg_cmp x y) ↔ y ≤ x := by
  unfold lg_cmp
  by_cases h : x > y
  · rw [if_pos h]
    exact ⟨fun _ => Int64.le_of_lt h, fun _ => by decide⟩
  · rw [if_neg h]
    by_cases h2 : x = y
    · subst h2
      rw [if_pos rfl]
      exact ⟨fun _ => Int64.le_refl _, fun _ => by decide⟩
    · rw [if_neg h2]
      refine ⟨fun h3 => absurd h3 (by decide), fun h3 => ?_⟩
      exact absurd (Int64.le_antisymm (Int64.not_lt.mp h) h3) h2
theorem lgc_gt (x y : Int64) : (0 < lg_cmp x y) ↔ y < x := by
  have := lgc_le x y
  constructor
  · intro h
    apply Int64.not_le.mp
    intro h2
    exact absurd (this.mpr h2) (Int32.not_le.mpr h)
  · intro h
    apply Int32.not_le.mp
    intro h2
    exact absurd (this.mp h2) (Int64.not_le.mpr h)
theorem lgc_lt (x y : Int64) : (lg_cmp x y < 0) ↔ x < y := by
  have := lgc_ge x y
  constructor
  · intro h
    apply Int64.not_le.mp
    intro h2
    exact absurd (this.mpr h2) (Int32.not_le.mpr h)
  · intro h
    apply Int32.not_le.mp
    intro h2
    exact absurd (this.mp h2) (Int64.not_le.mpr h)
theorem lgc_eq (x y : Int64) : (lg_cmp x y = 0) ↔ x = y := by
  constructor
  · intro h
    exact Int64.le_antisymm ((lgc_le x y).mp (by rw [h]; decide)) ((lgc_ge x y).mp (by rw [h]; decide))
  · intro h
    subst h
    unfold lg_cmp
    rw [if_neg (Int64.lt_irrefl), if_pos rfl]
def rgJ (v : Int64) : Prop := -1000000 ≤ v ∧ v ≤ 1000000
theorem rgJ_iff (v : Int64) : rgJ v ↔ -1000000 ≤ v.toInt ∧ v.toInt ≤ 1000000 := by
  unfold rgJ
  rw [Int64.le_iff_toInt_le, Int64.le_iff_toInt_le]
  rfl
theorem clJ_ok (v : Int64) : rgJ (clJ v) := by
  unfold clJ rgJ
  split
  · decide
  · split
    · decide
    · next h1 h2 => exact ⟨Int64.not_lt.mp h2, Int64.not_lt.mp h1⟩
theorem clJ_id {v : Int64} (h : rgJ v) : clJ v = v := by
  unfold clJ
  rw [if_neg (Int64.not_lt.mpr h.2), if_neg (Int64.not_lt.mpr h.1)]
theorem divJ_ok {a b : Int64} (h : rgJ a) : rgJ (divJ a b) := by
  unfold divJ
  split
  · unfold rgJ; decide
  · next hb =>
    rw [rgJ_iff] at h ⊢
    rw [Int64.toInt_div]
    have h1 : (a.toInt.tdiv b.toInt).natAbs ≤ a.toInt.natAbs := by
      rw [Int.natAbs_tdiv]
      exact Nat.div_le_self _ _
    have h2 : (a.toInt.tdiv b.toInt).bmod (2 ^ 64) = a.toInt.tdiv b.toInt := by
      apply Int.bmod_eq_of_le <;> omega
    rw [h2]
    omega
theorem jN_ok {n : Nat} (h : n ≤ 1000000) : rgJ ((nI n).toInt64) := by
  rw [rgJ_iff, Int32.toInt_toInt64, nI_toInt (by omega)]
  omega
theorem resN (v : Int64) (h1 : 0 ≤ v) (h2 : v ≤ 9999) : v.toInt32 = nI v.toInt.toNat ∧ v.toInt.toNat ≤ 9999 := by
  have a1 : 0 ≤ v.toInt := by rw [Int64.le_iff_toInt_le] at h1; exact h1
  have a2 : v.toInt ≤ 9999 := by rw [Int64.le_iff_toInt_le] at h2; exact h2
  refine ⟨?_, by omega⟩
  apply Int32.toInt.inj
  rw [Int64.toInt_toInt32, nI_toInt (by omega)]
  rw [Int.bmod_eq_of_le (by omega) (by omega)]
  omega
def tokV (bs od bi po c : Nat) : Nat := if c < 10000 then c else if c = 10000 then bs else if c = 10001 then od else if c = 10002 then bi else po
def clsC (c : Nat) : Int32 := if c < 10000 then nI c else -nI (c - 9999)
def opJ (c : Nat) (a b : Int64) : Int64 := if c = 10004 then clJ (a + b) else if c = 10005 then clJ (a - b) else if c = 10006 then clJ (a * b) else divJ a b
def hgt (t : Nat → Nat) : Nat → Nat
  | 0 => 0
  | k + 1 => if 10004 ≤ t k then hgt t k - 1 else hgt t k + 1
def mPos (t : Nat → Nat) : Nat → Nat
  | 0 => 0
  | k + 1 => mPos t k + (if 10004 ≤ t k then 1 else 2)
def evJ (V : Nat → Nat) (t : Nat → Nat) (J : Nat → Int64) : Nat → Nat → Int64
  | 0 => J
  | k + 1 => if 10004 ≤ t k then vp_updL (evJ V t J k) (hgt t k - 2) (opJ (t k) (evJ V t J k (hgt t k - 2)) (evJ V t J k (hgt t k - 1))) else vp_updL (evJ V t J k) (hgt t k) (nI (V (t k))).toInt64
/-- codes that a parser makes -/
def WFt (t : Nat → Nat) (K : Nat) : Prop := ∀ k, k < K → t k ≤ 10007 ∧ (10004 ≤ t k → 2 ≤ hgt t k) ∧ (t k < 10004 → hgt t k ≤ 10)
def priN (s : Int64) : Nat := if s < 0 then 0 else if 9999 < s then 9999 else s.toInt.toNat
theorem updL_eq (f : Nat → Int64) (k : Nat) (x : Int64) : vp_updL f k x k = x := if_pos rfl
theorem updL_ne {f : Nat → Int64} {k j : Nat} {x : Int64} (h : j ≠ k) : vp_updL f k x j = f j := if_neg h
theorem hgt_op {t : Nat → Nat} {k : Nat} (h : 10004 ≤ t k) : hgt t (k + 1) = hgt t k - 1 := if_pos h
theorem hgt_va {t : Nat → Nat} {k : Nat} (h : t k < 10004) : hgt t (k + 1) = hgt t k + 1 := if_neg (by omega)
theorem mPos_op {t : Nat → Nat} {k : Nat} (h : 10004 ≤ t k) : mPos t (k + 1) = mPos t k + 1 := congrArg (mPos t k + ·) (if_pos h)
theorem mPos_va {t : Nat → Nat} {k : Nat} (h : t k < 10004) : mPos t (k + 1) = mPos t k + 2 := congrArg (mPos t k + ·) (if_neg (by omega))
theorem mPos_le (t : Nat → Nat) : ∀ k, mPos t k ≤ 2 * k
  | 0 => Nat.le_refl 0
  | k + 1 => by
    have := mPos_le t k
    unfold mPos
    split <;> omega
theorem mPos_lt (t : Nat → Nat) (k : Nat) : mPos t k < mPos t (k + 1) := by
  show _ < mPos t k + _
  split <;> omega
theorem mPos_ge (t : Nat → Nat) : ∀ k, k ≤ mPos t k
  | 0 => Nat.le_refl 0
  | k + 1 => by
    have := mPos_ge t k
    have := mPos_lt t k
    omega
theorem mPos_mono (t : Nat → Nat) {k : Nat} : ∀ j, k ≤ j → mPos t k ≤ mPos t j
  | 0, h => by rw [show k = 0 by omega]; exact Nat.le_refl _
  | j + 1, h => by
    by_cases hk : k = j + 1
    · subst hk; exact Nat.le_refl _
    · have := mPos_mono t (k := k) j (by omega)
      have := mPos_lt t j
      omega
theorem opJ_ok {c : Nat} {a b : Int64} (h : rgJ a) : rgJ (opJ c a b) := by
  unfold opJ
  split
  · exact clJ_ok _
  · split
    · exact clJ_ok _
    · split
      · exact clJ_ok _
      · exact divJ_ok h
theorem evJ_ok {V : Nat → Nat} {t : Nat → Nat} {K : Nat} (hV : ∀ c, c < 10004 → V c ≤ 1000000) (hW : WFt t K) (J : Nat → Int64) : ∀ k, k ≤ K → ∀ j, j < hgt t k → rgJ (evJ V t J k j)
  | 0, _, j, hj => absurd hj (Nat.not_lt_zero j)
  | k + 1, hk, j, hj => by
    obtain ⟨w1, w2, w3⟩ := hW k (by omega)
    have ih := evJ_ok hV hW J k (by omega)
    unfold evJ
    by_cases ho : 10004 ≤ t k
    · rw [if_pos ho]
      rw [hgt_op ho] at hj
      have := w2 ho
      by_cases hj2 : j = hgt t k - 2
      · subst hj2
        rw [updL_eq]
        exact opJ_ok (ih _ (by omega))
      · rw [updL_ne hj2]
        exact ih j (by omega)
    · rw [if_neg ho]
      rw [hgt_va (by omega)] at hj
      by_cases hj2 : j = hgt t k
      · subst hj2
        rw [updL_eq]
        exact jN_ok (hV _ (by omega))
      · rw [updL_ne hj2]
        exact ih j (by omega)
theorem evJ_any {V : Nat → Nat} {t : Nat → Nat} {K : Nat} (hW : WFt t K) (J J' : Nat → Int64) : ∀ k, k ≤ K → ∀ j, j < hgt t k → evJ V t J k j = evJ V t J' k j
  | 0, _, j, hj => absurd hj (Nat.not_lt_zero j)
  | k + 1, hk, j, hj => by
    obtain ⟨w1, w2, w3⟩ := hW k (by omega)
    have ih := evJ_any (V := V) hW J J' k (by omega)
    unfold evJ
    by_cases ho : 10004 ≤ t k
    · rw [if_pos ho, if_pos ho]
      rw [hgt_op ho] at hj
      have := w2 ho
      by_cases hj2 : j = hgt t k - 2
      · subst hj2
        rw [updL_eq, updL_eq, ih _ (by omega), ih _ (by omega)]
      · rw [updL_ne hj2, updL_ne hj2]
        exact ih j (by omega)
    · rw [if_neg ho, if_neg ho]
      rw [hgt_va (by omega)] at hj
      by_cases hj2 : j = hgt t k
      · subst hj2
        rw [updL_eq, updL_eq]
      · rw [updL_ne hj2, updL_ne hj2]
        exact ih j (by omega)
theorem evJ_op {V : Nat → Nat} {t : Nat → Nat} {J : Nat → Int64} {k s : Nat} (ho : 10004 ≤ t k) (hs : hgt t k = s + 2) : evJ V t J (k + 1) = vp_updL (evJ V t J k) s (opJ (t k) (evJ V t J k s) (evJ V t J k (s + 1))) := by
  show (if 10004 ≤ t k then _ else _) = _
  rw [if_pos ho, hs]
  rfl
theorem evJ_va {V : Nat → Nat} {t : Nat → Nat} {J : Nat → Int64} {k : Nat} (ho : t k < 10004) : evJ V t J (k + 1) = vp_updL (evJ V t J k) (hgt t k) (nI (V (t k))).toInt64 := if_neg (by omega)
theorem hgt_le {t : Nat → Nat} {K : Nat} (hW : WFt t K) : ∀ k, k ≤ K → hgt t k ≤ 11
  | 0, _ => Nat.zero_le _
  | k + 1, hk => by
    obtain ⟨w1, w2, w3⟩ := hW k (by omega)
    have := hgt_le hW k (by omega)
    by_cases ho : 10004 ≤ t k
    · rw [hgt_op ho]; omega
    · rw [hgt_va (by omega)]
      have := w3 (by omega)
      omega
theorem hgt_pos {t : Nat → Nat} {K : Nat} (hW : WFt t K) : ∀ k, k ≤ K → 0 < k → 0 < hgt t k
  | 0, _, h0 => absurd h0 (by omega)
  | k + 1, hk, _ => by
    obtain ⟨w1, w2, w3⟩ := hW k (by omega)
    by_cases ho : 10004 ≤ t k
    · rw [hgt_op ho]
      have := w2 ho
      omega
    · rw [hgt_va (by omega)]
      omega
theorem priN_le (s : Int64) : priN s ≤ 9999 := by
  unfold priN
  split
  · omega
  · split
    · omega
    · next h1 h2 => exact (resN s (Int64.not_lt.mp h1) (Int64.not_lt.mp h2)).2
theorem priN_in {s : Int64} (h1 : ¬ s < 0) (h2 : ¬ 9999 < s) : s.toInt32 = nI (priN s) := by
  unfold priN
  rw [if_neg h1, if_neg h2]
  exact (resN s (Int64.not_lt.mp h1) (Int64.not_lt.mp h2)).1

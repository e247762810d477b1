/-! ===== prices: the model tells them ===== -/
/-- the model's codes in the data are these -/
def CodeR (d : Nat → Nat) (K : Nat) (t : Nat → Nat) : Prop :=
  0 < K ∧ (K ≤ 700 ∧ mPos t K ≤ 1200) ∧ WFt t K ∧ ((K = 1 ∧ t 0 = 10000 ∧ d 10 = 0) ∨ (d 10 = mPos t K ∧ ∀ k, k < K → (10004 ≤ t k → d (178 + mPos t k) = t k - 10002) ∧ (t k < 10000 → d (178 + mPos t k) = 0 ∧ d (178 + mPos t k + 1) = t k) ∧ (10000 ≤ t k → t k < 10004 → d (178 + mPos t k) = 1 ∧ d (178 + mPos t k + 1) = t k - 10000)))
theorem CodeR_congr {d d' : Nat → Nat} {K : Nat} {t : Nat → Nat} (h10 : d' 10 = d 10) (h : ∀ j, 178 ≤ j → d' j = d j) (hC : CodeR d K t) : CodeR d' K t := by
  obtain ⟨h1, h2, h3, h4⟩ := hC
  refine ⟨h1, h2, h3, ?_⟩
  rcases h4 with ⟨a, b, c⟩ | ⟨a, b⟩
  · exact Or.inl ⟨a, b, by rw [h10]; exact c⟩
  · refine Or.inr ⟨by rw [h10]; exact a, fun k hk => ?_⟩
    rw [h _ (by omega), h _ (by omega)]
    exact b k hk
/-- the price of a card -/
def varT (d : Nat → Nat) (p c : Nat) : Nat → Nat := tokV (d (11 + 19 * p + 3 + 2 * c + 1)) (ordN (idxN (d 0) (d (11 + 19 * p + 3 + 2 * c)))) (d 5) (d 6)
def priT (d : Nat → Nat) (K : Nat) (t : Nat → Nat) (p c : Nat) : Nat := priN (evJ (varT d p c) t (fun _ => 0) K 0)
section M85
variable {h : zH} {m N : Nat} {S B D E : Nat → Int32} {H : Nat → Nat → Int32} {J : Nat → Int64} {L U Z W : Nat → Int32} {d : Nat → Nat}
theorem m_limited (v : Int64) : f_X9_limited N v h = some (clJ v, h) := by
  unfold f_X9_limited clJ
  simp only [lgc_le, lgc_ge]
  by_cases h1 : (1000000 : Int64) < v
  · rw [if_neg (Int64.not_le.mpr h1), if_pos h1]
  · rw [if_pos (Int64.not_lt.mp h1), if_neg h1]
    by_cases h2 : v < -1000000
    · rw [if_neg (Int64.not_le.mpr h2), if_pos h2]
    · rw [if_pos (Int64.not_lt.mp h2), if_neg h2]
theorem m_operate {c : Nat} {a b : Int64} (hc : 10004 ≤ c) (hc2 : c ≤ 10007) : f_X9_operate N (nI (c - 10002)) a b h = some (opJ c a b, h) := by
  rcases (show c = 10004 ∨ c = 10005 ∨ c = 10006 ∨ c = 10007 by omega) with rfl | rfl | rfl | rfl
  · rw [show nI (10004 - 10002) = (2 : Int32) by decide]
    unfold f_X9_operate f_X9_operate_j44
    rw [if_neg (by decide), if_pos rfl, m_limited]
    unfold opJ
    rw [if_pos rfl]
    rfl
  · rw [show nI (10005 - 10002) = (3 : Int32) by decide]
    unfold f_X9_operate f_X9_operate_j44
    rw [if_neg (by decide), if_neg (by decide), if_pos rfl, m_limited]
    unfold opJ
    rw [if_neg (by omega), if_pos rfl]
    rfl
  · rw [show nI (10006 - 10002) = (4 : Int32) by decide]
    unfold f_X9_operate f_X9_operate_j44
    rw [if_neg (by decide), if_neg (by decide), if_neg (by decide), m_limited]
    unfold opJ
    rw [if_neg (by omega), if_neg (by omega), if_pos rfl]
    rfl
  · rw [show nI (10007 - 10002) = (5 : Int32) by decide, show opJ 10007 a b = divJ a b by unfold opJ; rw [if_neg (by omega), if_neg (by omega), if_neg (by omega)]]
    unfold f_X9_operate divJ
    rw [if_pos rfl]
    simp only [lgc_eq]
    by_cases hb : b = 0
    · rw [if_pos hb, if_pos hb]
    · rw [if_neg hb, if_neg hb]
      unfold zdivL
      rw [if_neg hb]
      rfl
set_option maxRecDepth 4000 in
theorem m_price_l {k1 : zH → Option (Int32 × zH)} {p c K : Nat} {t : Nat → Nat} (hN : 100 < N) (hn : inN (d 0)) (hp : p < 5) (hc : c < 8) (he : isN (d 0) (d (11 + 19 * p + 3 + 2 * c))) (hW : WFt t K) (hK : K ≤ 700 ∧ mPos t K ≤ 1200) (h10 : d 10 = mPos t K) (hC : ∀ k, k < K → (10004 ≤ t k → d (178 + mPos t k) = t k - 10002) ∧ (t k < 10000 → d (178 + mPos t k) = 0 ∧ d (178 + mPos t k + 1) = t k) ∧ (10000 ≤ t k → t k < 10004 → d (178 + mPos t k) = 1 ∧ d (178 + mPos t k + 1) = t k - 10000))  (J : Nat → Int64) : ∀ (r k fuel : Nat), k + r = K → r < fuel → f_X9_priceOf_l18 N m (nI p) (nI c) k1 fuel (nI (hgt t k)) (nI (mPos t k)) (mset h m S B (dI d) E H (evJ (varT d p c) t J k) L U Z W) = k1 (mset h m S B (dI d) E H (evJ (varT d p c) t J K) L U Z W) := by
  have hle := hK.2
  intro r
  induction r with
  | zero =>
    intro k fuel hk hfu
    obtain ⟨fuel, rfl⟩ : ∃ m, fuel = m + 1 := ⟨fuel - 1, by omega⟩
    have hkK : k = K := by omega
    subst hkK
    simp (disch := omega) only [f_X9_priceOf_l18, h10, nlit, nltT, nltF, nleT, nleF, neqT, neqF, nadd, nmul, nsub, ↓reduceIte, Option.bind_some, onO_ms, gI_ms, gA_ms, pF_ms, ldI_ms, stI_ms, dI_app, updI, upN_eq, upN_ne, Nat.add_zero, Nat.zero_add]
  | succ r ih =>
    intro k fuel hk hfu
    obtain ⟨fuel, rfl⟩ : ∃ m, fuel = m + 1 := ⟨fuel - 1, by omega⟩
    have hkK : k < K := by omega
    obtain ⟨w1, w2, w3⟩ := hW k hkK
    obtain ⟨c1, c2, c3⟩ := hC k hkK
    have hg := hgt_le hW k (by omega)
    have hlt := mPos_lt t k
    have hm1 := mPos_mono t (k := k + 1) K (by omega)
    rw [← ih (k + 1) fuel (by omega) (by omega)]
    by_cases ho : 10004 ≤ t k
    · have e1 := c1 ho
      obtain ⟨s, hs⟩ : ∃ s, hgt t k = s + 2 := ⟨hgt t k - 2, by have := w2 ho; omega⟩
      have e2 : nI (s + 2) + -nI 1 = nI (s + 1) := npred (s + 1)
      have q2 := fun (h : zH) (a b : Int64) => m_operate (N := N) (h := h) (a := a) (b := b) ho w1
      rw [evJ_op ho hs, hgt_op ho, hs, mPos_op ho, show s + 2 - 1 = s + 1 from rfl]
      rw [mPos_op ho] at hm1
      simp (disch := omega) only [f_X9_priceOf_l18, h10, Nat.add_sub_cancel, e1, e2, q2, ldJ_ms, stJ_ms, zjn, nlit, nltT, nltF, nleT, nleF, neqT, neqF, nadd, nmul, nsub, ↓reduceIte, Option.bind_some, onO_ms, gI_ms, gA_ms, pF_ms, ldI_ms, stI_ms, dI_app, updI, upN_eq, upN_ne, Nat.add_zero, Nat.zero_add]
    · have ho2 : t k < 10004 := by omega
      have := w3 ho2
      rw [mPos_va ho2] at hm1
      rw [evJ_va ho2, hgt_va ho2, mPos_va ho2]
      by_cases hl : t k < 10000
      · obtain ⟨e1, e2⟩ := c2 hl
        have e3 : varT d p c (t k) = t k := if_pos hl
        have e4 : 178 + (mPos t k + 1) = 178 + mPos t k + 1 := rfl
        rw [e3]
        simp (disch := omega) only [f_X9_priceOf_l18, h10, e1, e2, e4, ldJ_ms, stJ_ms, zjn, nlit, nltT, nltF, nleT, nleF, neqT, neqF, nadd, nmul, nsub, ↓reduceIte, Option.bind_some, onO_ms, gI_ms, gA_ms, pF_ms, ldI_ms, stI_ms, dI_app, updI, upN_eq, upN_ne, Nat.add_zero, Nat.zero_add]
      · obtain ⟨e1, e2⟩ := c3 (by omega) ho2
        have e4 : 178 + (mPos t k + 1) = 178 + mPos t k + 1 := rfl
        obtain ⟨n1, n2⟩ := isN_idx hn he
        have q1 := fun (J : Nat → Int64) => m_baseOf (N := N) (h := h) (m := m) (S := S) (B := B) (d := d) (E := E) (H := H) (J := J) (L := L) (U := U) (Z := Z) (W := W) hp hc
        have q2 := fun (J : Nat → Int64) => m_elementOf (N := N) (h := h) (m := m) (S := S) (B := B) (d := d) (E := E) (H := H) (J := J) (L := L) (U := U) (Z := Z) (W := W) hp hc
        have q3 := fun (h : zH) => m_orderOf (N := N) (h := h) (by omega) hn n1
        rw [← n2] at q3
        rcases (show t k = 10000 ∨ t k = 10001 ∨ t k = 10002 ∨ t k = 10003 by omega) with h4 | h4 | h4 | h4 <;> rw [h4] at e2 ⊢
        · simp (disch := omega) only [f_X9_priceOf_l18, h10, e1, e2, e4, q1, ldJ_ms, stJ_ms, zjn, nlit, nltT, nltF, nleT, nleF, neqT, neqF, nadd, nmul, nsub, ↓reduceIte, Option.bind_some, onO_ms, gI_ms, gA_ms, pF_ms, ldI_ms, stI_ms, dI_app, updI, upN_eq, upN_ne, Nat.add_zero, Nat.zero_add]
          rfl
        · simp (disch := omega) only [f_X9_priceOf_l18, h10, e1, e2, e4, q2, q3, ldJ_ms, stJ_ms, zjn, nlit, nltT, nltF, nleT, nleF, neqT, neqF, nadd, nmul, nsub, ↓reduceIte, Option.bind_some, onO_ms, gI_ms, gA_ms, pF_ms, ldI_ms, stI_ms, dI_app, updI, upN_eq, upN_ne, Nat.add_zero, Nat.zero_add]
          rfl
        · simp (disch := omega) only [f_X9_priceOf_l18, h10, e1, e2, e4, ldJ_ms, stJ_ms, zjn, nlit, nltT, nltF, nleT, nleF, neqT, neqF, nadd, nmul, nsub, ↓reduceIte, Option.bind_some, onO_ms, gI_ms, gA_ms, pF_ms, ldI_ms, stI_ms, dI_app, updI, upN_eq, upN_ne, Nat.add_zero, Nat.zero_add]
          rfl
        · simp (disch := omega) only [f_X9_priceOf_l18, h10, e1, e2, e4, ldJ_ms, stJ_ms, zjn, nlit, nltT, nltF, nleT, nleF, neqT, neqF, nadd, nmul, nsub, ↓reduceIte, Option.bind_some, onO_ms, gI_ms, gA_ms, pF_ms, ldI_ms, stI_ms, dI_app, updI, upN_eq, upN_ne, Nat.add_zero, Nat.zero_add]
          rfl
theorem m_priceE (x : Int64) : (if 0 ≤ lg_cmp x (0 : Int64) then if lg_cmp x (9999 : Int64) ≤ 0 then some (x.toInt32, h) else some ((9999 : Int32), h) else some ((0 : Int32), h)) = some (nI (priN x), h) := by
  simp only [lgc_le, lgc_ge]
  by_cases h1 : x < 0
  · rw [if_neg (Int64.not_le.mpr h1)]
    unfold priN
    rw [if_pos h1]
    rfl
  · rw [if_pos (Int64.not_lt.mp h1)]
    by_cases h2 : 9999 < x
    · rw [if_neg (Int64.not_le.mpr h2)]
      unfold priN
      rw [if_neg h1, if_pos h2]
      rfl
    · rw [if_pos (Int64.not_lt.mp h2), priN_in h1 h2]
theorem m_priceOf {p c K : Nat} {t : Nat → Nat} (hN : 1000 < N) (hn : inN (d 0)) (hp : p < 5) (hc : c < 8) (hb : d (11 + 19 * p + 3 + 2 * c + 1) ≤ 999) (he : isN (d 0) (d (11 + 19 * p + 3 + 2 * c))) (hC : CodeR d K t) : ∃ J' : Nat → Int64, ∀ (S : Nat → Int32) (H : Nat → Nat → Int32), f_X9_priceOf N m (nI p) (nI c) (mset h m S B (dI d) E H J L U Z W) = some (nI (priT d K t p c), mset h m S B (dI d) E H J' L U Z W) := by
  obtain ⟨k0, k6, hW, hc1 | ⟨c1, c2⟩⟩ := hC
  · obtain ⟨rfl, t0, d10⟩ := hc1
    refine ⟨vp_updL J 0 (nI (d (11 + 19 * p + 3 + 2 * c + 1))).toInt64, fun S H => ?_⟩
    obtain ⟨N', rfl⟩ : ∃ m, N = m + 1 := ⟨N - 1, by omega⟩
    have q1 := m_baseOf (N := N' + 1) (h := h) (m := m) (S := S) (B := B) (d := d) (E := E) (H := H) (J := J) (L := L) (U := U) (Z := Z) (W := W) hp hc
    have e : priT d 1 t p c = priN (nI (d (11 + 19 * p + 3 + 2 * c + 1))).toInt64 := by
      unfold priT
      rw [evJ_va (by omega), t0]
      rfl
    rw [e, ← m_priceE]
    simp (config := { maxSteps := 1000000 }) (disch := omega) only [f_X9_priceOf, f_X9_priceOf_l18, q1, d10, ldJ_ms, stJ_ms, updL_eq, zjn, nlit, nltT, nltF, nleT, nleF, neqT, neqF, nadd, nmul, nsub, ↓reduceIte, Option.bind_some, onO_ms, gI_ms, gA_ms, pF_ms, ldI_ms, stI_ms, dI_app, updI, upN_eq, upN_ne, Nat.add_zero, Nat.zero_add]
    rfl
  · refine ⟨evJ (varT d p c) t (vp_updL J 0 (nI (d (11 + 19 * p + 3 + 2 * c + 1))).toInt64) K, fun S H => ?_⟩
    have q1 := m_baseOf (N := N) (h := h) (m := m) (S := S) (B := B) (d := d) (E := E) (H := H) (J := J) (L := L) (U := U) (Z := Z) (W := W) hp hc
    have q2 := fun k1 => m_price_l (N := N) (h := h) (m := m) (S := S) (B := B) (E := E) (H := H) (L := L) (U := U) (Z := Z) (W := W) (k1 := k1) (by omega) hn hp hc he hW k6 c1 c2 (vp_updL J 0 (nI (d (11 + 19 * p + 3 + 2 * c + 1))).toInt64) K 0 N (by omega) (by omega)
    have e : priT d K t p c = priN (evJ (varT d p c) t (vp_updL J 0 (nI (d (11 + 19 * p + 3 + 2 * c + 1))).toInt64) K 0) := by
      unfold priT
      rw [evJ_any hW _ (vp_updL J 0 (nI (d (11 + 19 * p + 3 + 2 * c + 1))).toInt64) K (Nat.le_refl K) 0 (hgt_pos hW K (Nat.le_refl K) k0)]
    rw [e, ← m_priceE]
    unfold f_X9_priceOf
    simp (disch := omega) only [q1, stJ_ms, nlit, nltT, nltF, nleT, nleF, neqT, neqF, nadd, nmul, nsub, ↓reduceIte, Option.bind_some, onO_ms, gI_ms, gA_ms, pF_ms, ldI_ms, stI_ms, dI_app, updI, upN_eq, upN_ne, Nat.add_zero, Nat.zero_add]
    refine Eq.trans (q2 _) ?_
    simp (disch := omega) only [ldJ_ms, nlit, nltT, nltF, nleT, nleF, neqT, neqF, nadd, nmul, nsub, ↓reduceIte, Option.bind_some, onO_ms, gI_ms, gA_ms, pF_ms, ldI_ms, stI_ms, dI_app, updI, upN_eq, upN_ne, Nat.add_zero, Nat.zero_add]
    rfl
end M85

/-! ===== the model's questions about elements and products ===== -/
section M79
variable {h : zH} {m N : Nat} {S B D E : Nat → Int32} {H : Nat → Nat → Int32} {J J' : Nat → Int64} {L U Z W : Nat → Int32} {d : Nat → Nat}
theorem m_errorOffset : f_X9_errorOffset N m (mset h m S B (dI d) E H J L U Z W) = some (S 7, mset h m (upd S 0 (nI 0)) B (dI d) E H J L U Z W) := by
  simp (disch := omega) only [f_X9_errorOffset, upS_ne, nlit, nltT, nltF, nleT, nleF, neqT, neqF, nadd, nmul, ↓reduceIte, Option.bind_some, onO_ms, gI_ms, gA_ms, pF_ms, ldI_ms, stI_ms, dI_app, updI, upN_eq, upN_ne, Nat.add_zero, Nat.zero_add]
theorem m_mul_1 (hN : 10 < N) {x y : Int32} (hn : inN (d 0)) (hx : (eltI (d 0) x).isSome = false) : f_X9_multiply N m x y (mset h m S B (dI d) E H J L U Z W) = some (nI 0, mset h m (upd S 0 (nI 1)) B (dI d) E H J L U Z W) := by
  have n2 := m_noElement' (N := N) (h := h) (m := m) (B := B) (E := E) (L := L) (U := U) (Z := Z) (W := W) (S := upd S 0 (nI 0)) (H := H) (J := J) (y := 1) hN hn (upS_eq _ _ _) hx (by omega) (by omega)
  simp (disch := omega) only [f_X9_multiply, n2, upS_upS, nlit, nltT, nltF, nleT, nleF, neqT, neqF, nadd, nmul, ↓reduceIte, Option.bind_some, onO_ms, gI_ms, gA_ms, pF_ms, ldI_ms, stI_ms, dI_app, updI, upN_eq, upN_ne, Nat.add_zero, Nat.zero_add]
theorem m_mul_2 (hN : 10 < N) {x y : Int32} (hn : inN (d 0)) (hx : (eltI (d 0) x).isSome = true) (hy : (eltI (d 0) y).isSome = false) : f_X9_multiply N m x y (mset h m S B (dI d) E H J L U Z W) = some (nI 0, mset h m (upd S 0 (nI 1)) B (dI d) E H J L U Z W) := by
  have n1 := m_noElement (N := N) (h := h) (m := m) (B := B) (E := E) (L := L) (U := U) (Z := Z) (W := W) (S := upd S 0 (nI 0)) (H := H) (J := J) (y := nI 1) hN hn (upS_eq _ _ _) hx
  have n2 := m_noElement' (N := N) (h := h) (m := m) (B := B) (E := E) (L := L) (U := U) (Z := Z) (W := W) (S := upd S 0 (nI 0)) (H := H) (J := J) (y := 1) hN hn (upS_eq _ _ _) hy (by omega) (by omega)
  simp (disch := omega) only [f_X9_multiply, n1, n2, upS_upS, nlit, nltT, nltF, nleT, nleF, neqT, neqF, nadd, nmul, ↓reduceIte, Option.bind_some, onO_ms, gI_ms, gA_ms, pF_ms, ldI_ms, stI_ms, dI_app, updI, upN_eq, upN_ne, Nat.add_zero, Nat.zero_add]
theorem eltI_num {n e : Nat} (hn : inN n) (he : e < fctN n) : (eltI n (nI (numN n e))).isSome = true := by
  have hl := num_lt hn (Nat.lt_of_lt_of_le he (fct_le hn))
  rw [eltI_nI (by omega), elt_num hn he]
  rfl
theorem m_mul_ok (hN : 10 < N) {e f : Nat} (hn : inN (d 0)) (he : e < fctN (d 0)) (hf : f < fctN (d 0)) : f_X9_multiply N m (nI (numN (d 0) e)) (nI (numN (d 0) f)) (mset h m S B (dI d) E H J L U Z W) = some (nI (numN (d 0) (mulN e f)), mset h m (upd S 0 (nI 0)) B (dI d) E H J L U Z W) := by
  have n1 := m_noElement (N := N) (h := h) (m := m) (B := B) (E := E) (L := L) (U := U) (Z := Z) (W := W) (S := upd S 0 (nI 0)) (H := H) (J := J) (y := nI 1) hN hn (upS_eq _ _ _) (eltI_num hn he)
  have n2 := m_noElement (N := N) (h := h) (m := m) (B := B) (E := E) (L := L) (U := U) (Z := Z) (W := W) (S := upd S 0 (nI 0)) (H := H) (J := J) (y := nI 1) hN hn (upS_eq _ _ _) (eltI_num hn hf)
  simp (disch := omega) only [f_X9_multiply, n1, n2, m_times hN hn he hf, nlit, nltT, nltF, nleT, nleF, neqT, neqF, nadd, nmul, ↓reduceIte, Option.bind_some, onO_ms, gI_ms, gA_ms, pF_ms, ldI_ms, stI_ms, dI_app, updI, upN_eq, upN_ne, Nat.add_zero, Nat.zero_add]
theorem m_inverse_no (hN : 10 < N) {x : Int32} (hn : inN (d 0)) (hx : (eltI (d 0) x).isSome = false) : f_X9_inverse N m x (mset h m S B (dI d) E H J L U Z W) = some (nI 0, mset h m (upd S 0 (nI 1)) B (dI d) E H J L U Z W) := by
  have n2 := m_noElement' (N := N) (h := h) (m := m) (B := B) (E := E) (L := L) (U := U) (Z := Z) (W := W) (S := upd S 0 (nI 0)) (H := H) (J := J) (y := 1) hN hn (upS_eq _ _ _) hx (by omega) (by omega)
  simp (disch := omega) only [f_X9_inverse, n2, upS_upS, nlit, nltT, nltF, nleT, nleF, neqT, neqF, nadd, nmul, ↓reduceIte, Option.bind_some, onO_ms, gI_ms, gA_ms, pF_ms, ldI_ms, stI_ms, dI_app, updI, upN_eq, upN_ne, Nat.add_zero, Nat.zero_add]
theorem m_inverse_ok (hN : 10 < N) {e : Nat} (hn : inN (d 0)) (he : e < fctN (d 0)) : f_X9_inverse N m (nI (numN (d 0) e)) (mset h m S B (dI d) E H J L U Z W) = some (nI (numN (d 0) (invN e)), mset h m (upd S 0 (nI 0)) B (dI d) E H J L U Z W) := by
  have n1 := m_noElement (N := N) (h := h) (m := m) (B := B) (E := E) (L := L) (U := U) (Z := Z) (W := W) (S := upd S 0 (nI 0)) (H := H) (J := J) (y := nI 1) hN hn (upS_eq _ _ _) (eltI_num hn he)
  simp (disch := omega) only [f_X9_inverse, n1, m_inverseOf hN hn he, nlit, nltT, nltF, nleT, nleF, neqT, neqF, nadd, nmul, ↓reduceIte, Option.bind_some, onO_ms, gI_ms, gA_ms, pF_ms, ldI_ms, stI_ms, dI_app, updI, upN_eq, upN_ne, Nat.add_zero, Nat.zero_add]
theorem m_order_no (hN : 10 < N) {x : Int32} (hn : inN (d 0)) (hx : (eltI (d 0) x).isSome = false) : f_X9_order N m x (mset h m S B (dI d) E H J L U Z W) = some (nI 0, mset h m (upd S 0 (nI 1)) B (dI d) E H J L U Z W) := by
  have n2 := m_noElement' (N := N) (h := h) (m := m) (B := B) (E := E) (L := L) (U := U) (Z := Z) (W := W) (S := upd S 0 (nI 0)) (H := H) (J := J) (y := 1) hN hn (upS_eq _ _ _) hx (by omega) (by omega)
  simp (disch := omega) only [f_X9_order, n2, upS_upS, nlit, nltT, nltF, nleT, nleF, neqT, neqF, nadd, nmul, ↓reduceIte, Option.bind_some, onO_ms, gI_ms, gA_ms, pF_ms, ldI_ms, stI_ms, dI_app, updI, upN_eq, upN_ne, Nat.add_zero, Nat.zero_add]
theorem m_order_ok (hN : 10 < N) {e : Nat} (hn : inN (d 0)) (he : e < fctN (d 0)) : f_X9_order N m (nI (numN (d 0) e)) (mset h m S B (dI d) E H J L U Z W) = some (nI (ordN e), mset h m (upd S 0 (nI 0)) B (dI d) E H J L U Z W) := by
  have n1 := m_noElement (N := N) (h := h) (m := m) (B := B) (E := E) (L := L) (U := U) (Z := Z) (W := W) (S := upd S 0 (nI 0)) (H := H) (J := J) (y := nI 1) hN hn (upS_eq _ _ _) (eltI_num hn he)
  simp (disch := omega) only [f_X9_order, n1, m_orderOf hN hn he, nlit, nltT, nltF, nleT, nleF, neqT, neqF, nadd, nmul, ↓reduceIte, Option.bind_some, onO_ms, gI_ms, gA_ms, pF_ms, ldI_ms, stI_ms, dI_app, updI, upN_eq, upN_ne, Nat.add_zero, Nat.zero_add]
theorem m_product (hN : 100 < N) (hn : inN (d 0)) (ht : d 5 ≤ 20) (hb : ∀ k, k < d 5 → isN (d 0) (d (118 + 3 * k + 1))) : f_X9_product N m (mset h m S B (dI d) E H J L U Z W) = some (nI (numN (d 0) (prodF (bidE d) (d 5) 0 0)), mset h m (upd S 0 (nI 0)) B (dI d) E H J L U Z W) := by
  have n1 := m_productNow (N := N) (h := h) (m := m) (B := B) (E := E) (L := L) (U := U) (Z := Z) (W := W) (S := upd S 0 (nI 0)) (H := H) (J := J) hN hn ht hb
  simp (disch := omega) only [f_X9_product, n1, nlit, nltT, nltF, nleT, nleF, neqT, neqF, nadd, nmul, ↓reduceIte, Option.bind_some, onO_ms, gI_ms, gA_ms, pF_ms, ldI_ms, stI_ms, dI_app, updI, upN_eq, upN_ne, Nat.add_zero, Nat.zero_add]
end M79

/-! ===== pairs: what is asked ===== -/
def cSt (k : Nat) : Option Nat := if k = 1 then some 1 else none
def cPl (k : Nat) : Option Nat := if k = 2 then some 1 else if k = 1 then some 2 else none
def cCd (k : Nat) : Option Nat := if k = 2 then some 1 else if k = 3 then some 2 else if k = 1 then some 3 else none
def cBd (k : Nat) : Option Nat := if k = 3 then some 1 else if k = 1 then some 2 else none
def cRc (k : Nat) : Option Nat := if k = 2 then some 1 else none
def cPy (k : Nat) : Option Nat := if k = 0 then some 1 else if k = 3 then some 2 else none
def cPs (k : Nat) : Option Nat := if k = 0 then some 1 else none
def cGv (k : Nat) : Option Nat := if k = 2 then some 1 else if k = 1 then some 2 else if k = 0 then some 3 else none
def cDs (k : Nat) : Option Nat := if k = 2 then some 1 else if k = 3 then some 2 else none
theorem nne {x : Int32} {n k : Nat} (hx : ¬ inP x n) (hk : k < n) : (x = nI k) = False := eq_false fun e => hx ⟨k, hk, e⟩
section M95m
variable {h : zH} {m N : Nat} {S B E : Nat → Int32} {H : Nat → Nat → Int32} {J : Nat → Int64} {L U Z W : Nat → Int32} {d : Nat → Nat}
theorem m_productOf_no {x y : Int32} (h5 : d 5 ≤ 20) (hx : x < 0 ∨ y < x ∨ ¬ y ≤ nI (d 5)) : f_X9_productOf N m x y (mset h m S B (dI d) E H J L U Z W) = some (nI 0, mset h m (upd S 0 (nI 1)) B (dI d) E H J L U Z W) := by
  have e0 : (x < 0) = (x < nI 0) := rfl
  rw [e0] at hx
  by_cases c1 : x < nI 0
  · simp (disch := omega) only [f_X9_productOf, f_X9_productOf_j25, f_X9_productOf_j30, f_X9_fails, f_X9_fails_j16, c1, upS_eq, upS_upS, nlit, nltT, nltF, nleT, nleF, neqT, neqF, nadd, nmul, ↓reduceIte, Option.bind_some, onO_ms, gI_ms, gA_ms, pF_ms, ldI_ms, stI_ms, dI_app, updI, upN_eq, upN_ne, Nat.add_zero, Nat.zero_add]
  · by_cases c2 : y < x
    · simp (disch := omega) only [f_X9_productOf, f_X9_productOf_j25, f_X9_productOf_j30, f_X9_fails, f_X9_fails_j16, c1, c2, upS_eq, upS_upS, nlit, nltT, nltF, nleT, nleF, neqT, neqF, nadd, nmul, ↓reduceIte, Option.bind_some, onO_ms, gI_ms, gA_ms, pF_ms, ldI_ms, stI_ms, dI_app, updI, upN_eq, upN_ne, Nat.add_zero, Nat.zero_add]
    · have c3 : ¬ y ≤ nI (d 5) := by
        rcases hx with h1 | h1 | h1
        · exact absurd h1 c1
        · exact absurd h1 c2
        · exact h1
      simp (disch := omega) only [f_X9_productOf, f_X9_productOf_j25, f_X9_productOf_j30, f_X9_fails, f_X9_fails_j16, c1, c2, c3, upS_eq, upS_upS, nlit, nltT, nltF, nleT, nleF, neqT, neqF, nadd, nmul, ↓reduceIte, Option.bind_some, onO_ms, gI_ms, gA_ms, pF_ms, ldI_ms, stI_ms, dI_app, updI, upN_eq, upN_ne, Nat.add_zero, Nat.zero_add]
end M95m
section M95
variable {h h' : zH} {b0 K N q z : Nat} {ea : Int32} {d : Nat → Nat} {t : Nat → Nat} {hd : Nat → Nat → Nat} {hK : Nat → Nat} {ht : Nat → Nat → Nat} {B : Nat → Int32}
theorem PR_error (hW : WC b0 h (d, K, t, (q, hd, hK, ht), ea, z, B)) : PairN b0 (f_X8_errorOffset N b0) (f_X9_errorOffset N (b0 + 395)) h (d, K, t, (q, hd, hK, ht), ea, z, B) := by
  obtain ⟨⟨⟨hGo, hG, hS0⟩, hBr⟩, ⟨hA, hD, hC⟩, hH, hHG⟩ := id hW
  obtain ⟨⟨g0, g1, g2, g3, g4, g5, g7⟩, gb, gl, gp, gm⟩ := id hD
  have hGo : Gob b0 h ea := hGo
  have kT := w_T hD hA
  have kA := w_A hD hA
  refine ⟨ea, h, (d, K, t, (q, hd, hK, ht), ea, z, B), ?_, hW, Keep_rf, fun h2 th hM => ?_⟩
  · simp only [f_X8_errorOffset, w_g5 hGo, Option.bind_some]
  · obtain ⟨S, B1, E, H, J, L, U, Z, W, e0, e1, e2, e3, e4, e5, e6, e7, e8⟩ := id hM
    have k := m_errorOffset (N := N) (h := h2) (m := b0 + 395) (S := S) (B := B1) (d := d) (E := E) (H := H) (J := J) (L := L) (U := U) (Z := Z) (W := W)
    rw [e0, e4] at k
    refine ⟨_, nI 0, k, ⟨upd S 0 (nI 0), B1, E, H, J, L, U, Z, W, ms_ms, upS_eq _ _ _, ?_, e3, ?_, ?_, e6, e7, ?_⟩, KeepM_ms⟩
    · rw [upS_ne (by omega)]; exact e2
    · rw [upS_ne (by omega)]; exact e4
    · rw [upS_ne (by omega)]; exact e5
    · rw [upS_ne (by omega), upS_ne (by omega)]; exact e8
theorem PR_state (hW : WC b0 h (d, K, t, (q, hd, hK, ht), ea, z, B)) (x : Int32) : PairT b0 (f_X8_state N b0 x) (f_X9_state N (b0 + 395) x) cSt h (d, K, t, (q, hd, hK, ht), ea, z, B) := by
  obtain ⟨⟨⟨hGo, hG, hS0⟩, hBr⟩, ⟨hA, hD, hC⟩, hH, hHG⟩ := id hW
  obtain ⟨⟨g0, g1, g2, g3, g4, g5, g7⟩, gb, gl, gp, gm⟩ := id hD
  have hGo : Gob b0 h ea := hGo
  have kT := w_T hD hA
  have kA := w_A hD hA
  rcases inP_cases x 9 with ⟨w, hw, rfl⟩ | ⟨hx, -⟩
  · refine P_val (v := toldN d w) hW ?_ (fun h2 S B1 E H J L U Z W => m_state_ok hw (by omega) (by omega) (by omega))
    have k2 := w_size_27 (N := N) hD hA
    have k5 := w_size_31 (N := N) hD hA
    have ko := w_over (N := N) hD hA
    have e1 : ((1 : Int32) = 0) = False := eq_false (by decide)
    have e2 : (nI 1 = nI 0) = False := e1
    unfold toldN
    rcases (show w = 0 ∨ w = 1 ∨ w = 2 ∨ w = 3 ∨ w = 4 ∨ w = 5 ∨ w = 6 ∨ w = 7 ∨ w = 8 by omega) with rfl | rfl | rfl | rfl | rfl | rfl | rfl | rfl | rfl
    · rw [if_neg (by omega)]
      simp (disch := omega) only [f_X8_state, nlit, neqT, neqF, w_g2 hGo, kT, Option.bind_some, ↓reduceIte]
    · rw [if_neg (by omega)]
      simp (disch := omega) only [f_X8_state, nlit, neqT, neqF, w_g2 hGo, kT, Option.bind_some, ↓reduceIte]
    · rw [if_neg (by omega)]
      simp (disch := omega) only [f_X8_state, nlit, neqT, neqF, w_g2 hGo, kA, w_o6 hA isR_27, k2, Option.bind_some, ↓reduceIte]
    · rw [if_pos (by omega)]
      cases ho : overN d <;> rw [ho] at ko <;> simp (disch := omega) only [f_X8_state, nlit, neqT, neqF, w_g2 hGo, kT, w_o0 hA, ko, b2_t', b2_f', e2, Option.bind_some, ↓reduceIte, reduceCtorEq]
    · rw [if_pos (by omega)]
      cases ho : overN d <;> rw [ho] at ko <;> simp (disch := omega) only [f_X8_state, nlit, neqT, neqF, w_g2 hGo, kT, w_o0 hA, ko, b2_t', b2_f', e2, Option.bind_some, ↓reduceIte, reduceCtorEq]
    · rw [if_neg (by omega)]
      simp (disch := omega) only [f_X8_state, nlit, neqT, neqF, w_g2 hGo, kA, w_o6 hA isR_31, k5, Option.bind_some, ↓reduceIte]
    · rw [if_neg (by omega)]
      simp (disch := omega) only [f_X8_state, nlit, neqT, neqF, w_g2 hGo, kT, Option.bind_some, ↓reduceIte]
    · rw [if_neg (by omega)]
      simp (disch := omega) only [f_X8_state, nlit, neqT, neqF, w_g2 hGo, kT, Option.bind_some, ↓reduceIte]
    · rw [if_neg (by omega)]
      simp (disch := omega) only [f_X8_state, nlit, neqT, neqF, w_g2 hGo, kT, Option.bind_some, ↓reduceIte]
  · refine P_thr (k := 1) (c := 1) hW ?_ rfl (by omega) (by omega) (fun h2 S B1 E H J L U Z W => m_state_no hx)
    simp (disch := omega) only [f_X8_state, nlit, nne hx, ↓reduceIte]
theorem PR_player (hW : WC b0 h (d, K, t, (q, hd, hK, ht), ea, z, B)) (x y : Int32) : PairT b0 (f_X8_player N b0 x y) (f_X9_player N (b0 + 395) x y) cPl h (d, K, t, (q, hd, hK, ht), ea, z, B) := by
  obtain ⟨⟨⟨hGo, hG, hS0⟩, hBr⟩, ⟨hA, hD, hC⟩, hH, hHG⟩ := id hW
  obtain ⟨⟨g0, g1, g2, g3, g4, g5, g7⟩, gb, gl, gp, gm⟩ := id hD
  have hGo : Gob b0 h ea := hGo
  have kT := w_T hD hA
  have kA := w_A hD hA
  rcases inP_cases x (d 1) with ⟨p, hp, rfl⟩ | ⟨hx, -⟩
  · have k1 := w_existing (N := N) hGo hD hA hp
    rcases inP_cases y 3 with ⟨w, hw, rfl⟩ | ⟨hy, -⟩
    · refine P_val hW ?_ (fun h2 S B1 E H J L U Z W => m_player_ok g1 hp hw)
      have kI := w_bI hp hD hA
      have kB := w_bA hp hD hA
      have ks := w_size_e (N := N) hp hD hA
      rcases (show w = 0 ∨ w = 1 ∨ w = 2 by omega) with rfl | rfl | rfl
      · simp (disch := omega) only [f_X8_player, nlit, neqT, neqF, w_o8 hGo, k1, kI, zth, Option.bind_some, ↓reduceIte, Nat.add_zero]
      · simp (disch := omega) only [f_X8_player, nlit, neqT, neqF, w_o8 hGo, k1, kB, w_o6 hA (isR_e (show p < 5 by omega)), ks, zth, Option.bind_some, ↓reduceIte]
      · simp (disch := omega) only [f_X8_player, nlit, neqT, neqF, w_o8 hGo, k1, kI, zth, Option.bind_some, ↓reduceIte]
    · refine P_thr (k := 1) (c := 2) hW ?_ rfl (by omega) (by omega) (fun h2 S B1 E H J L U Z W => m_player_w g1 hp hy)
      simp (disch := omega) only [f_X8_player, nlit, w_o8 hGo, k1, nne hy, zth, Option.bind_some, ↓reduceIte]
  · have k1 := w_nexisting (N := N) hGo hD hA hx
    refine P_thr (k := 2) (c := 1) hW ?_ rfl (by omega) (by omega) (fun h2 S B1 E H J L U Z W => m_player_p (by omega) hx)
    simp only [f_X8_player, w_o8 hGo, k1, zth, Option.bind_some]
theorem PR_bid (hNN : 1000 < N) (hW : WC b0 h (d, K, t, (q, hd, hK, ht), ea, z, B)) (x y : Int32) : PairT b0 (f_X8_bid N b0 x y) (f_X9_bid N (b0 + 395) x y) cBd h (d, K, t, (q, hd, hK, ht), ea, z, B) := by
  obtain ⟨⟨⟨hGo, hG, hS0⟩, hBr⟩, ⟨hA, hD, hC⟩, hH, hHG⟩ := id hW
  obtain ⟨⟨g0, g1, g2, g3, g4, g5, g7⟩, gb, gl, gp, gm⟩ := id hD
  have hGo : Gob b0 h ea := hGo
  have kT := w_T hD hA
  have kA := w_A hD hA
  have e2 : (nI 1 = nI 0) = False := eq_false (by decide)
  rcases inP_cases x (d 5) with ⟨b, hb, rfl⟩ | ⟨hx, -⟩
  · have k1 := w_holds_31 (N := N) ⟨b, hb, rfl⟩ hD hA
    rcases inP_cases y 3 with ⟨w, hw, rfl⟩ | ⟨hy, -⟩
    · refine P_val hW ?_ (fun h2 S B1 E H J L U Z W => m_bid_ok g5 hb hw)
      have a1 := w_at_29 (N := N) hb hD hA
      have a2 := w_at_31 (N := N) hb hD hA
      have a3 := w_at_33 (N := N) hb hD hA
      obtain ⟨i1, i2⟩ := isN_idx g0 (gb b hb).2.1
      have kn := w_numberOf (N := N) (by omega) hGo hG hD hA i1
      rw [← i2] at kn
      rcases (show w = 0 ∨ w = 1 ∨ w = 2 by omega) with rfl | rfl | rfl
      · simp (disch := omega) only [f_X8_bid, nlit, neqT, neqF, w_o6 hA isR_31, w_o6 hA isR_29, w_g2 hGo, k1, kA, a1, e2, Option.bind_some, ↓reduceIte, Nat.add_zero]
      · simp (disch := omega) only [f_X8_bid, nlit, neqT, neqF, w_o8 hGo, w_o6 hA isR_31, w_g2 hGo, k1, kA, a2, kn, e2, Option.bind_some, ↓reduceIte]
      · simp (disch := omega) only [f_X8_bid, nlit, neqT, neqF, w_o6 hA isR_31, w_o6 hA isR_33, w_g2 hGo, k1, kA, a3, e2, Option.bind_some, ↓reduceIte]
    · refine P_thr (k := 1) (c := 2) hW ?_ rfl (by omega) (by omega) (fun h2 S B1 E H J L U Z W => m_bid_w g5 hb hy)
      simp (disch := omega) only [f_X8_bid, nlit, w_o6 hA isR_31, w_g2 hGo, k1, kA, e2, nne hy, Option.bind_some, ↓reduceIte]
  · have k1 := w_nholds_31 (N := N) hx hD hA
    refine P_thr (k := 3) (c := 1) hW ?_ rfl (by omega) (by omega) (fun h2 S B1 E H J L U Z W => m_bid_b g5 hx)
    simp (disch := omega) only [f_X8_bid, nlit, w_o6 hA isR_31, w_g2 hGo, k1, kA, Option.bind_some, ↓reduceIte]
theorem PR_product (hNN : 1000 < N) (hW : WC b0 h (d, K, t, (q, hd, hK, ht), ea, z, B)) : PairN b0 (f_X8_product N b0) (f_X9_product N (b0 + 395)) h (d, K, t, (q, hd, hK, ht), ea, z, B) := by
  obtain ⟨⟨⟨hGo, hG, hS0⟩, hBr⟩, ⟨hA, hD, hC⟩, hH, hHG⟩ := id hW
  obtain ⟨⟨g0, g1, g2, g3, g4, g5, g7⟩, gb, gl, gp, gm⟩ := id hD
  have hGo : Gob b0 h ea := hGo
  have kT := w_T hD hA
  have kA := w_A hD hA
  have hb2 : ∀ k, k < d 5 → isN (d 0) (d (118 + 3 * k + 1)) := fun k hk => (gb k hk).2.1
  refine P_N hW ?_ (fun h2 S B1 E H J L U Z W => m_product (by omega) g0 g5 hb2)
  have k1 := w_prod (N := N) (s := 0) (by omega) hG hD hA (Nat.zero_le (d 5)) (Nat.le_refl _)
  have k2 := w_size_31 (N := N) hD hA
  have k3 := w_numberOf (N := N) (by omega) hGo hG hD hA (prodF_in g0 (bidE d) (d 5 - 0) 0 0 (Nat.lt_trans Nat.zero_lt_one (fct_pos g0)) (fun j _ hj => (isN_idx g0 (hb2 j (by omega))).1))
  rw [Nat.sub_zero] at k1 k3
  simp only [f_X8_product, nlit, w_g2 hGo, kA, w_o6 hA isR_31, w_o0 hA, w_o8 hGo, k1, k2, k3, Option.bind_some]
theorem PR_productOf (hNN : 1000 < N) (hW : WC b0 h (d, K, t, (q, hd, hK, ht), ea, z, B)) (x y : Int32) : PairT b0 (f_X8_productOf N b0 x y) (f_X9_productOf N (b0 + 395) x y) cSt h (d, K, t, (q, hd, hK, ht), ea, z, B) := by
  obtain ⟨⟨⟨hGo, hG, hS0⟩, hBr⟩, ⟨hA, hD, hC⟩, hH, hHG⟩ := id hW
  obtain ⟨⟨g0, g1, g2, g3, g4, g5, g7⟩, gb, gl, gp, gm⟩ := id hD
  have hGo : Gob b0 h ea := hGo
  have kT := w_T hD hA
  have kA := w_A hD hA
  have hb2 : ∀ k, k < d 5 → isN (d 0) (d (118 + 3 * k + 1)) := fun k hk => (gb k hk).2.1
  have k2 := w_size_31 (N := N) hD hA
  by_cases hr : x < 0 ∨ y < x ∨ ¬ y ≤ nI (d 5)
  · refine P_thr (k := 1) (c := 1) hW ?_ rfl (by omega) (by omega) (fun h2 S B1 E H J L U Z W => m_productOf_no g5 hr)
    by_cases c1 : x < 0
    · simp only [f_X8_productOf, c1, ↓reduceIte]
    · by_cases c2 : y < x
      · simp only [f_X8_productOf, c1, c2, ↓reduceIte]
      · have c3 : ¬ y ≤ nI (d 5) := by
          rcases hr with h1 | h1 | h1
          · exact absurd h1 c1
          · exact absurd h1 c2
          · exact h1
        simp only [f_X8_productOf, w_g2 hGo, kA, w_o6 hA isR_31, k2, c1, c2, c3, Option.bind_some, ↓reduceIte]
  · have c1 : ¬ x < 0 := fun h9 => hr (Or.inl h9)
    have c2 : ¬ y < x := fun h9 => hr (Or.inr (Or.inl h9))
    have c3 : y ≤ nI (d 5) := Decidable.byContradiction fun h9 => hr (Or.inr (Or.inr h9))
    obtain ⟨s, hs1, rfl⟩ := nIof (Int32.not_lt.mp c1)
    have c4 : ¬ y < 0 := fun h9 => c2 (Int32.lt_of_lt_of_le h9 (Int32.not_lt.mp c1))
    obtain ⟨e, he1, rfl⟩ := nIof (Int32.not_lt.mp c4)
    have c5 : e ≤ d 5 := by rw [nle (by omega) (by omega)] at c3; exact c3
    have c6 : s ≤ e := by
      have := c2
      rw [nlt (by omega) (by omega)] at this
      omega
    refine P_val hW ?_ (fun h2 S B1 E H J L U Z W => m_productOf_ok (by omega) c6 c5 g0 g5 hb2)
    have k1 := w_prod (N := N) (by omega) hG hD hA c6 c5
    have k3 := w_numberOf (N := N) (by omega) hGo hG hD hA (prodF_in g0 (bidE d) (e - s) s 0 (Nat.lt_trans Nat.zero_lt_one (fct_pos g0)) (fun j _ hj => (isN_idx g0 (hb2 j (by omega))).1))
    simp (disch := omega) only [f_X8_productOf, w_g2 hGo, kA, w_o6 hA isR_31, w_o0 hA, w_o8 hGo, k1, k2, k3, c1, c2, c3, Option.bind_some, ↓reduceIte]
theorem PR_multiply (hNN : 1000 < N) (hW : WC b0 h (d, K, t, (q, hd, hK, ht), ea, z, B)) (x y : Int32) : PairT b0 (f_X8_multiply N b0 x y) (f_X9_multiply N (b0 + 395) x y) cSt h (d, K, t, (q, hd, hK, ht), ea, z, B) := by
  obtain ⟨⟨⟨hGo, hG, hS0⟩, hBr⟩, ⟨hA, hD, hC⟩, hH, hHG⟩ := id hW
  obtain ⟨⟨g0, g1, g2, g3, g4, g5, g7⟩, gb, gl, gp, gm⟩ := id hD
  have hGo : Gob b0 h ea := hGo
  have kT := w_T hD hA
  have kA := w_A hD hA
  have kx := w_elementOf (N := N) (x := x) (by omega) hGo hG hD hA
  have ky := w_elementOf (N := N) (x := y) (by omega) hGo hG hD hA
  have f8 := fct_le g0
  cases hx : eltI (d 0) x with
  | none =>
    rw [hx] at kx
    refine P_thr (k := 1) (c := 1) hW ?_ rfl (by omega) (by omega) (fun h2 S B1 E H J L U Z W => m_mul_1 (by omega) g0 (by rw [hx]; rfl))
    simp only [f_X8_multiply, w_g0 hGo, w_o8 hGo, kx, zth, Option.bind_some]
  | some e =>
    rw [hx] at kx
    cases hy : eltI (d 0) y with
    | none =>
      rw [hy] at ky
      refine P_thr (k := 1) (c := 1) hW ?_ rfl (by omega) (by omega) (fun h2 S B1 E H J L U Z W => m_mul_2 (by omega) g0 (by rw [hx]; rfl) (by rw [hy]; rfl))
      simp only [f_X8_multiply, w_g0 hGo, w_o8 hGo, kx, ky, zth, Option.bind_some]
    | some f =>
      rw [hy] at ky
      obtain ⟨x1, x2⟩ := eltI_some g0 hx
      obtain ⟨y1, y2⟩ := eltI_some g0 hy
      replace kx : f_X8_elementOf N b0 x h = some (.inl (nI e), h) := kx
      replace ky : f_X8_elementOf N b0 y h = some (.inl (nI f), h) := ky
      subst x2
      subst y2
      refine P_val hW ?_ (fun h2 S B1 E H J L U Z W => m_mul_ok (by omega) g0 x1 y1)
      have k4 := x_times (N := N) hG (by omega) (show e < 120 by omega) (show f < 120 by omega)
      have k5 := w_numberOf (N := N) (by omega) hGo hG hD hA (mul_in g0 x1 y1)
      simp only [f_X8_multiply, w_g0 hGo, w_o8 hGo, w_o2 hG, kx, ky, k4, k5, zth, Option.bind_some]
theorem PR_inverse (hNN : 1000 < N) (hW : WC b0 h (d, K, t, (q, hd, hK, ht), ea, z, B)) (x : Int32) : PairT b0 (f_X8_inverse N b0 x) (f_X9_inverse N (b0 + 395) x) cSt h (d, K, t, (q, hd, hK, ht), ea, z, B) := by
  obtain ⟨⟨⟨hGo, hG, hS0⟩, hBr⟩, ⟨hA, hD, hC⟩, hH, hHG⟩ := id hW
  obtain ⟨⟨g0, g1, g2, g3, g4, g5, g7⟩, gb, gl, gp, gm⟩ := id hD
  have hGo : Gob b0 h ea := hGo
  have kT := w_T hD hA
  have kA := w_A hD hA
  have kx := w_elementOf (N := N) (x := x) (by omega) hGo hG hD hA
  have f8 := fct_le g0
  cases hx : eltI (d 0) x with
  | none =>
    rw [hx] at kx
    refine P_thr (k := 1) (c := 1) hW ?_ rfl (by omega) (by omega) (fun h2 S B1 E H J L U Z W => m_inverse_no (by omega) g0 (by rw [hx]; rfl))
    simp only [f_X8_inverse, w_g0 hGo, w_o8 hGo, kx, zth, Option.bind_some]
  | some e =>
    rw [hx] at kx
    replace kx : f_X8_elementOf N b0 x h = some (.inl (nI e), h) := kx
    obtain ⟨x1, x2⟩ := eltI_some g0 hx
    subst x2
    refine P_val hW ?_ (fun h2 S B1 E H J L U Z W => m_inverse_ok (by omega) g0 x1)
    have k4 := x_opposite (N := N) hG (by omega) (show e < 120 by omega)
    have k5 := w_numberOf (N := N) (by omega) hGo hG hD hA (inv_in g0 x1)
    simp only [f_X8_inverse, w_g0 hGo, w_o8 hGo, w_o2 hG, kx, k4, k5, zth, Option.bind_some]
theorem PR_order (hNN : 1000 < N) (hW : WC b0 h (d, K, t, (q, hd, hK, ht), ea, z, B)) (x : Int32) : PairT b0 (f_X8_order N b0 x) (f_X9_order N (b0 + 395) x) cSt h (d, K, t, (q, hd, hK, ht), ea, z, B) := by
  obtain ⟨⟨⟨hGo, hG, hS0⟩, hBr⟩, ⟨hA, hD, hC⟩, hH, hHG⟩ := id hW
  obtain ⟨⟨g0, g1, g2, g3, g4, g5, g7⟩, gb, gl, gp, gm⟩ := id hD
  have hGo : Gob b0 h ea := hGo
  have kT := w_T hD hA
  have kA := w_A hD hA
  have kx := w_elementOf (N := N) (x := x) (by omega) hGo hG hD hA
  have f8 := fct_le g0
  cases hx : eltI (d 0) x with
  | none =>
    rw [hx] at kx
    refine P_thr (k := 1) (c := 1) hW ?_ rfl (by omega) (by omega) (fun h2 S B1 E H J L U Z W => m_order_no (by omega) g0 (by rw [hx]; rfl))
    simp only [f_X8_order, w_g0 hGo, w_o8 hGo, kx, zth, Option.bind_some]
  | some e =>
    rw [hx] at kx
    replace kx : f_X8_elementOf N b0 x h = some (.inl (nI e), h) := kx
    obtain ⟨x1, x2⟩ := eltI_some g0 hx
    subst x2
    refine P_val hW ?_ (fun h2 S B1 E H J L U Z W => m_order_ok (by omega) g0 x1)
    have k4 := x_period (N := N) hG (by omega) (show e < 120 by omega)
    simp only [f_X8_order, w_g0 hGo, w_o8 hGo, w_o2 hG, kx, k4, zth, Option.bind_some]
end M95

section M990
variable {h h' h1 : zH} {b0 K N q z : Nat} {ea : Int32} {d : Nat → Nat} {t : Nat → Nat} {hd : Nat → Nat → Nat} {hK : Nat → Nat} {ht : Nat → Nat → Nat} {B : Nat → Int32}
theorem xv_state {w : Nat} (hW : WC b0 h (d, K, t, (q, hd, hK, ht), ea, z, B)) (hw : w < 9) : f_X8_state N b0 (nI w) h = some (.inl (toldN d w), h) := by
  obtain ⟨⟨⟨hGo, hG, hS0⟩, hBr⟩, ⟨hA, hD, hC⟩, hH, hHG⟩ := id hW
  obtain ⟨⟨g0, g1, g2, g3, g4, g5, g7⟩, gb, gl, gp, gm⟩ := id hD
  have hGo : Gob b0 h ea := hGo
  have kT := w_T hD hA
  have kA := w_A hD hA
  have e2 : (nI 1 = nI 0) = False := eq_false (by decide)
  have hq8 : q ≤ 8 := by obtain ⟨o, -, h9, -⟩ := hH; exact h9
  have k2 := w_size_27 (N := N) hD hA
  have k5 := w_size_31 (N := N) hD hA
  have ko := w_over (N := N) hD hA
  have e1 : ((1 : Int32) = 0) = False := eq_false (by decide)
  have e2 : (nI 1 = nI 0) = False := e1
  unfold toldN
  rcases (show w = 0 ∨ w = 1 ∨ w = 2 ∨ w = 3 ∨ w = 4 ∨ w = 5 ∨ w = 6 ∨ w = 7 ∨ w = 8 by omega) with rfl | rfl | rfl | rfl | rfl | rfl | rfl | rfl | rfl
  · rw [if_neg (by omega)]
    simp (disch := omega) only [f_X8_state, nlit, neqT, neqF, w_g2 hGo, kT, Option.bind_some, ↓reduceIte]
  · rw [if_neg (by omega)]
    simp (disch := omega) only [f_X8_state, nlit, neqT, neqF, w_g2 hGo, kT, Option.bind_some, ↓reduceIte]
  · rw [if_neg (by omega)]
    simp (disch := omega) only [f_X8_state, nlit, neqT, neqF, w_g2 hGo, kA, w_o6 hA isR_27, k2, Option.bind_some, ↓reduceIte]
  · rw [if_pos (by omega)]
    cases ho : overN d <;> rw [ho] at ko <;> simp (disch := omega) only [f_X8_state, nlit, neqT, neqF, w_g2 hGo, kT, w_o0 hA, ko, b2_t', b2_f', e2, Option.bind_some, ↓reduceIte, reduceCtorEq]
  · rw [if_pos (by omega)]
    cases ho : overN d <;> rw [ho] at ko <;> simp (disch := omega) only [f_X8_state, nlit, neqT, neqF, w_g2 hGo, kT, w_o0 hA, ko, b2_t', b2_f', e2, Option.bind_some, ↓reduceIte, reduceCtorEq]
  · rw [if_neg (by omega)]
    simp (disch := omega) only [f_X8_state, nlit, neqT, neqF, w_g2 hGo, kA, w_o6 hA isR_31, k5, Option.bind_some, ↓reduceIte]
  · rw [if_neg (by omega)]
    simp (disch := omega) only [f_X8_state, nlit, neqT, neqF, w_g2 hGo, kT, Option.bind_some, ↓reduceIte]
  · rw [if_neg (by omega)]
    simp (disch := omega) only [f_X8_state, nlit, neqT, neqF, w_g2 hGo, kT, Option.bind_some, ↓reduceIte]
  · rw [if_neg (by omega)]
    simp (disch := omega) only [f_X8_state, nlit, neqT, neqF, w_g2 hGo, kT, Option.bind_some, ↓reduceIte]
theorem xv_player {p w : Nat} (hW : WC b0 h (d, K, t, (q, hd, hK, ht), ea, z, B)) (hp : p < d 1) (hw : w < 3) : f_X8_player N b0 (nI p) (nI w) h = some (.inl (nI (d (11 + 19 * p + w))), h) := by
  obtain ⟨⟨⟨hGo, hG, hS0⟩, hBr⟩, ⟨hA, hD, hC⟩, hH, hHG⟩ := id hW
  obtain ⟨⟨g0, g1, g2, g3, g4, g5, g7⟩, gb, gl, gp, gm⟩ := id hD
  have hGo : Gob b0 h ea := hGo
  have kT := w_T hD hA
  have kA := w_A hD hA
  have e2 : (nI 1 = nI 0) = False := eq_false (by decide)
  have hq8 : q ≤ 8 := by obtain ⟨o, -, h9, -⟩ := hH; exact h9
  have k1 := w_existing (N := N) hGo hD hA hp
  have kI := w_bI hp hD hA
  have kB := w_bA hp hD hA
  have ks := w_size_e (N := N) hp hD hA
  rcases (show w = 0 ∨ w = 1 ∨ w = 2 by omega) with rfl | rfl | rfl
  · simp (disch := omega) only [f_X8_player, nlit, neqT, neqF, w_o8 hGo, k1, kI, zth, Option.bind_some, ↓reduceIte, Nat.add_zero]
  · simp (disch := omega) only [f_X8_player, nlit, neqT, neqF, w_o8 hGo, k1, kB, w_o6 hA (isR_e (show p < 5 by omega)), ks, zth, Option.bind_some, ↓reduceIte]
  · simp (disch := omega) only [f_X8_player, nlit, neqT, neqF, w_o8 hGo, k1, kI, zth, Option.bind_some, ↓reduceIte]
theorem xv_bid {b w : Nat} (hNN : 1000 < N) (hW : WC b0 h (d, K, t, (q, hd, hK, ht), ea, z, B)) (hb : b < d 5) (hw : w < 3) : f_X8_bid N b0 (nI b) (nI w) h = some (.inl (nI (d (118 + 3 * b + w))), h) := by
  obtain ⟨⟨⟨hGo, hG, hS0⟩, hBr⟩, ⟨hA, hD, hC⟩, hH, hHG⟩ := id hW
  obtain ⟨⟨g0, g1, g2, g3, g4, g5, g7⟩, gb, gl, gp, gm⟩ := id hD
  have hGo : Gob b0 h ea := hGo
  have kT := w_T hD hA
  have kA := w_A hD hA
  have e2 : (nI 1 = nI 0) = False := eq_false (by decide)
  have hq8 : q ≤ 8 := by obtain ⟨o, -, h9, -⟩ := hH; exact h9
  have k1 := w_holds_31 (N := N) ⟨b, hb, rfl⟩ hD hA
  have a1 := w_at_29 (N := N) hb hD hA
  have a2 := w_at_31 (N := N) hb hD hA
  have a3 := w_at_33 (N := N) hb hD hA
  obtain ⟨i1, i2⟩ := isN_idx g0 (gb b hb).2.1
  have kn := w_numberOf (N := N) (by omega) hGo hG hD hA i1
  rw [← i2] at kn
  rcases (show w = 0 ∨ w = 1 ∨ w = 2 by omega) with rfl | rfl | rfl
  · simp (disch := omega) only [f_X8_bid, nlit, neqT, neqF, w_o6 hA isR_31, w_o6 hA isR_29, w_g2 hGo, k1, kA, a1, e2, Option.bind_some, ↓reduceIte, Nat.add_zero]
  · simp (disch := omega) only [f_X8_bid, nlit, neqT, neqF, w_o8 hGo, w_o6 hA isR_31, w_g2 hGo, k1, kA, a2, kn, e2, Option.bind_some, ↓reduceIte]
  · simp (disch := omega) only [f_X8_bid, nlit, neqT, neqF, w_o6 hA isR_31, w_o6 hA isR_33, w_g2 hGo, k1, kA, a3, e2, Option.bind_some, ↓reduceIte]
theorem xv_product (hNN : 1000 < N) (hW : WC b0 h (d, K, t, (q, hd, hK, ht), ea, z, B)) : f_X8_product N b0 h = some (nI (numN (d 0) (prodF (bidE d) (d 5) 0 0)), h) := by
  obtain ⟨⟨⟨hGo, hG, hS0⟩, hBr⟩, ⟨hA, hD, hC⟩, hH, hHG⟩ := id hW
  obtain ⟨⟨g0, g1, g2, g3, g4, g5, g7⟩, gb, gl, gp, gm⟩ := id hD
  have hGo : Gob b0 h ea := hGo
  have kT := w_T hD hA
  have kA := w_A hD hA
  have e2 : (nI 1 = nI 0) = False := eq_false (by decide)
  have hq8 : q ≤ 8 := by obtain ⟨o, -, h9, -⟩ := hH; exact h9
  have hb2 : ∀ k, k < d 5 → isN (d 0) (d (118 + 3 * k + 1)) := fun k hk => (gb k hk).2.1
  have k1 := w_prod (N := N) (s := 0) (by omega) hG hD hA (Nat.zero_le (d 5)) (Nat.le_refl _)
  have k2 := w_size_31 (N := N) hD hA
  have k3 := w_numberOf (N := N) (by omega) hGo hG hD hA (prodF_in g0 (bidE d) (d 5 - 0) 0 0 (Nat.lt_trans Nat.zero_lt_one (fct_pos g0)) (fun j _ hj => (isN_idx g0 (hb2 j (by omega))).1))
  rw [Nat.sub_zero] at k1 k3
  simp only [f_X8_product, nlit, w_g2 hGo, kA, w_o6 hA isR_31, w_o0 hA, w_o8 hGo, k1, k2, k3, Option.bind_some]
theorem xv_card0 {p c : Nat} (hNN : 1400 < N) (hW : WC b0 h (d, K, t, (q, hd, hK, ht), ea, z, B)) (hp : p < d 1) (hc : c < d (11 + 19 * p + 1)) : f_X8_card N b0 (nI p) (nI c) (nI 0) h = some (.inl (nI (d (11 + 19 * p + 3 + 2 * c))), h) ∧ f_X8_card N b0 (nI p) (nI c) (nI 1) h = some (.inl (nI (d (11 + 19 * p + 3 + 2 * c + 1))), h) := by
  obtain ⟨⟨⟨hGo, hG, hS0⟩, hBr⟩, ⟨hA, hD, hC⟩, hH, hHG⟩ := id hW
  obtain ⟨⟨g0, g1, g2, g3, g4, g5, g7⟩, gb, gl, gp, gm⟩ := id hD
  have hGo : Gob b0 h ea := hGo
  have kT := w_T hD hA
  have kA := w_A hD hA
  have e2 : (nI 1 = nI 0) = False := eq_false (by decide)
  have hq8 : q ≤ 8 := by obtain ⟨o, -, h9, -⟩ := hH; exact h9
  have k1 := w_existing (N := N) hGo hD hA hp
  obtain ⟨p8, pw, pc⟩ := gp p hp
  have hp5 : p < 5 := by omega
  have kB := w_bA hp hD hA
  have k2 := w_holds_e (N := N) hp ⟨c, hc, rfl⟩ hD hA
  have a1 := w_at_e (N := N) hp hc hD hA
  have a2 := w_at_b (N := N) hp hc hD hA
  obtain ⟨i1, i2⟩ := isN_idx g0 (pc c hc).1
  have kn := w_numberOf (N := N) (by omega) hGo hG hD hA i1
  rw [← i2] at kn
  refine ⟨?_, ?_⟩
  · simp (disch := omega) only [f_X8_card, nlit, neqT, neqF, w_o8 hGo, k1, kB, w_o6 hA (isR_e hp5), k2, a1, kn, e2, zth, Option.bind_some, ↓reduceIte]
  · simp (disch := omega) only [f_X8_card, nlit, neqT, neqF, w_o8 hGo, k1, kB, w_o6 hA (isR_e hp5), w_o6 hA (isR_b hp5), k2, a2, e2, zth, Option.bind_some, ↓reduceIte]
theorem xv_card2 {p c : Nat} (hNN : 1400 < N) (hW : WC b0 h (d, K, t, (q, hd, hK, ht), ea, z, B)) (hp : p < d 1) (hc : c < d (11 + 19 * p + 1)) : ∃ h', f_X8_card N b0 (nI p) (nI c) (nI 2) h = some (.inl (nI (priT d K t p c)), h') ∧ WC b0 h' (d, K, t, (q, hd, hK, ht), ea, z, B) ∧ FrA b0 h h' := by
  obtain ⟨⟨⟨hGo, hG, hS0⟩, hBr⟩, ⟨hA, hD, hC⟩, hH, hHG⟩ := id hW
  obtain ⟨⟨g0, g1, g2, g3, g4, g5, g7⟩, gb, gl, gp, gm⟩ := id hD
  have hGo : Gob b0 h ea := hGo
  have kT := w_T hD hA
  have kA := w_A hD hA
  have e2 : (nI 1 = nI 0) = False := eq_false (by decide)
  have hq8 : q ≤ 8 := by obtain ⟨o, -, h9, -⟩ := hH; exact h9
  have k1 := w_existing (N := N) hGo hD hA hp
  obtain ⟨p8, pw, pc⟩ := gp p hp
  have hp5 : p < 5 := by omega
  have kB := w_bA hp hD hA
  have k2 := w_holds_e (N := N) hp ⟨c, hc, rfl⟩ hD hA
  obtain ⟨h', q1, q2, q3⟩ := w_price (N := N) (by omega) hG hD hC hA hp hc
  refine ⟨h', ?_, WC_fra hW q3 q2 hD hC, q3⟩
  simp (disch := omega) only [f_X8_card, nlit, neqT, neqF, w_o8 hGo, k1, kB, w_o6 hA (isR_e hp5), w_g2 hGo, w_o0 hA, k2, q1, e2, zth, Option.bind_some, ↓reduceIte]
theorem xo8 {s : St} {β : Type} {F : Option β} (hW : WC b0 h s) : onO 8 b0 h F = F := by
  obtain ⟨d, K, t, ⟨q, hd, hK, ht⟩, ea, z, B⟩ := s
  exact w_o8 (ea := ea) hW.1.1.1
theorem x_ck1 {k1 : Int64 → zH → Option ((Int64 ⊕ Nat) × zH)} (hW : WC b0 h (d, K, t, (q, hd, hK, ht), ea, z, B)) : ∀ (r k f : Nat) (v : Int64), k + r = 9 → r < f → f_X8_checksum_l4 N b0 k1 f v (nI k) h = k1 (ckF (toldN d) r k v) h := by
  intro r
  induction r with
  | zero =>
    intro k f v hk hf
    obtain ⟨f, rfl⟩ : ∃ m, f = m + 1 := ⟨f - 1, by omega⟩
    simp (disch := omega) only [f_X8_checksum_l4, nlit, nltT, ↓reduceIte]
    rfl
  | succ r ih =>
    intro k f v hk hf
    obtain ⟨f, rfl⟩ : ∃ m, f = m + 1 := ⟨f - 1, by omega⟩
    have n1 := xv_state (N := N) (w := k) hW (by omega)
    refine Eq.trans ?_ (ih (k + 1) f (ck v (toldN d k)) (by omega) (by omega))
    simp (disch := omega) only [f_X8_checksum_l4, nlit, nltF, nadd, xo8 hW, n1, zth, ↓reduceIte, Option.bind_some]
    rfl
theorem x_ck2 {k1 : Int64 → zH → Option ((Int64 ⊕ Nat) × zH)} {p : Nat} (hW : WC b0 h (d, K, t, (q, hd, hK, ht), ea, z, B)) (hp : p < d 1) : ∀ (r k f : Nat) (v : Int64), k + r = 3 → r < f → f_X8_withPlayer_l6 N b0 (nI p) k1 f v (nI k) h = k1 (ckF (fun w => nI (d (11 + 19 * p + w))) r k v) h := by
  intro r
  induction r with
  | zero =>
    intro k f v hk hf
    obtain ⟨f, rfl⟩ : ∃ m, f = m + 1 := ⟨f - 1, by omega⟩
    simp (disch := omega) only [f_X8_withPlayer_l6, nlit, nltT, ↓reduceIte]
    rfl
  | succ r ih =>
    intro k f v hk hf
    obtain ⟨f, rfl⟩ : ∃ m, f = m + 1 := ⟨f - 1, by omega⟩
    have n1 := xv_player (N := N) (p := p) (w := k) hW hp (by omega)
    refine Eq.trans ?_ (ih (k + 1) f (ck v (nI (d (11 + 19 * p + k)))) (by omega) (by omega))
    simp (disch := omega) only [f_X8_withPlayer_l6, nlit, nltF, nadd, xo8 hW, n1, zth, ↓reduceIte, Option.bind_some]
    rfl
theorem x_ck3 {k1 : Int64 → zH → Option ((Int64 ⊕ Nat) × zH)} {p c : Nat} {x6 : Int32} (hNN : 1400 < N) (hW : WC b0 h (d, K, t, (q, hd, hK, ht), ea, z, B)) (hp : p < d 1) (hc : c < d (11 + 19 * p + 1)) (v : Int64) : ∃ h', f_X8_withPlayer_l56 N b0 (nI p) x6 (nI c) k1 N v (nI 0) h = k1 (ckF (cardV d K t p c) 3 0 v) h' ∧ WC b0 h' (d, K, t, (q, hd, hK, ht), ea, z, B) ∧ FrA b0 h h' := by
  obtain ⟨h', n3, n4, n5⟩ := xv_card2 (N := N) hNN hW hp hc
  obtain ⟨n1, n2⟩ := xv_card0 (N := N) hNN hW hp hc
  refine ⟨h', ?_, n4, n5⟩
  obtain ⟨n, hn⟩ : ∃ n, N = n + 1 + 1 + 1 + 1 := ⟨N - 4, by omega⟩
  have key : ∀ n, f_X8_withPlayer_l56 N b0 (nI p) x6 (nI c) k1 (n + 1 + 1 + 1 + 1) v (nI 0) h = k1 (ckF (cardV d K t p c) 3 0 v) h' := by
    intro n
    simp (disch := omega) only [f_X8_withPlayer_l56, n1, n2, n3, xo8 hW, zth, nlit, nltT, nltF, nadd, ↓reduceIte, Option.bind_some]
    rfl
  have := key n
  rw [← hn] at this
  exact this
theorem x_ck4 {p : Nat} (hNN : 1400 < N) : ∀ (r c f : Nat) (v : Int64) (h : zH), WC b0 h (d, K, t, (q, hd, hK, ht), ea, z, B) → p < d 1 → c + r = d (11 + 19 * p + 1) → r < f → ∃ h', f_X8_withPlayer_l46 N b0 (nI p) (nI (d (11 + 19 * p + 1))) f v (nI c) h = some (.inl (cardsF d K t p r c v), h') ∧ WC b0 h' (d, K, t, (q, hd, hK, ht), ea, z, B) ∧ FrA b0 h h' := by
  intro r
  induction r with
  | zero =>
    intro c f v h hW hp hk hf
    have p8 := (hW.2.1.2.1.2.2.2.1 p hp).1
    obtain ⟨f, rfl⟩ : ∃ m, f = m + 1 := ⟨f - 1, by omega⟩
    refine ⟨h, ?_, hW, FrA_rf⟩
    simp (disch := omega) only [f_X8_withPlayer_l46, nleT, ↓reduceIte]
    rfl
  | succ r ih =>
    intro c f v h hW hp hk hf
    have p8 := (hW.2.1.2.1.2.2.2.1 p hp).1
    obtain ⟨f, rfl⟩ : ∃ m, f = m + 1 := ⟨f - 1, by omega⟩
    obtain ⟨h1, q1, q2, q3⟩ := x_ck3 (N := N) (x6 := nI (d (11 + 19 * p + 1))) (k1 := fun (u12 : Int64) (h13 : zH) => f_X8_withPlayer_l46 N b0 (nI p) (nI (d (11 + 19 * p + 1))) f u12 (nI c + (1 : Int32)) h13) hNN hW hp (show c < d (11 + 19 * p + 1) by omega) v
    obtain ⟨h2, q4, q5, q6⟩ := ih (c + 1) f (ckF (cardV d K t p c) 3 0 v) h1 q2 hp (by omega) (by omega)
    refine ⟨h2, Eq.trans ?_ q4, q5, FrA_tr q3 q6⟩
    simp (disch := omega) only [f_X8_withPlayer_l46, nleF, nlit, nadd, ↓reduceIte] at q1 ⊢
    exact q1
theorem x_ck5 {p : Nat} (hNN : 1400 < N) (hW : WC b0 h (d, K, t, (q, hd, hK, ht), ea, z, B)) (hp : p < d 1) (v : Int64) : ∃ h', f_X8_withPlayer N b0 v (nI p) h = some (.inl (cardsF d K t p (d (11 + 19 * p + 1)) 0 (ckF (fun w => nI (d (11 + 19 * p + w))) 3 0 v)), h') ∧ WC b0 h' (d, K, t, (q, hd, hK, ht), ea, z, B) ∧ FrA b0 h h' := by
  have p8 := (hW.2.1.2.1.2.2.2.1 p hp).1
  obtain ⟨h1, q1, q2, q3⟩ := x_ck4 (N := N) (p := p) hNN (d (11 + 19 * p + 1)) 0 N (ckF (fun w => nI (d (11 + 19 * p + w))) 3 0 v) h hW hp (by omega) (by omega)
  refine ⟨h1, Eq.trans ?_ q1, q2, q3⟩
  have n1 := xv_player (N := N) (p := p) (w := 1) hW hp (by omega)
  refine Eq.trans (x_ck2 hW hp 3 0 N v (by omega) (by omega)) ?_
  simp only [nlit, xo8 hW, n1, zth, Option.bind_some]
theorem x_ck6 {k1 : Int64 → zH → Option ((Int64 ⊕ Nat) × zH)} (hNN : 1400 < N) : ∀ (r p f : Nat) (v : Int64) (h : zH), WC b0 h (d, K, t, (q, hd, hK, ht), ea, z, B) → p + r = d 1 → r < f → ∃ h', f_X8_checksum_l31 N b0 k1 f v (nI p) h = k1 (playsF d K t r p v) h' ∧ WC b0 h' (d, K, t, (q, hd, hK, ht), ea, z, B) ∧ FrA b0 h h' := by
  intro r
  induction r with
  | zero =>
    intro p f v h hW hk hf
    obtain ⟨⟨⟨hGo, hG, hS0⟩, hBr⟩, ⟨hA, hD, hC⟩, hH, hHG⟩ := id hW
    have g1 := hD.1.2.1
    have hGo : Gob b0 h ea := hGo
    obtain ⟨f, rfl⟩ : ∃ m, f = m + 1 := ⟨f - 1, by omega⟩
    refine ⟨h, ?_, hW, FrA_rf⟩
    simp (disch := omega) only [f_X8_checksum_l31, w_g2 hGo, w_T hD hA, nleT, ↓reduceIte, Option.bind_some]
    rfl
  | succ r ih =>
    intro p f v h hW hk hf
    obtain ⟨⟨⟨hGo, hG, hS0⟩, hBr⟩, ⟨hA, hD, hC⟩, hH, hHG⟩ := id hW
    have g1 := hD.1.2.1
    have hGo : Gob b0 h ea := hGo
    obtain ⟨f, rfl⟩ : ∃ m, f = m + 1 := ⟨f - 1, by omega⟩
    obtain ⟨h1, q1, q2, q3⟩ := x_ck5 (N := N) (p := p) hNN hW (by omega) v
    obtain ⟨h2, q4, q5, q6⟩ := ih (p + 1) f (cardsF d K t p (d (11 + 19 * p + 1)) 0 (ckF (fun w => nI (d (11 + 19 * p + w))) 3 0 v)) h1 q2 (by omega) (by omega)
    refine ⟨h2, Eq.trans ?_ q4, q5, FrA_tr q3 q6⟩
    simp (disch := omega) only [f_X8_checksum_l31, w_g2 hGo, w_T hD hA, xo8 hW, q1, zth, nleF, nlit, nadd, ↓reduceIte, Option.bind_some]
theorem x_ck7 {k1 : Int64 → zH → Option ((Int64 ⊕ Nat) × zH)} {b : Nat} (hNN : 1400 < N) (hW : WC b0 h (d, K, t, (q, hd, hK, ht), ea, z, B)) (hb : b < d 5) : ∀ (r k f : Nat) (v : Int64), k + r = 3 → r < f → f_X8_checksum_l74 N b0 (nI b) k1 f v (nI k) h = k1 (ckF (fun w => nI (d (118 + 3 * b + w))) r k v) h := by
  intro r
  induction r with
  | zero =>
    intro k f v hk hf
    obtain ⟨f, rfl⟩ : ∃ m, f = m + 1 := ⟨f - 1, by omega⟩
    simp (disch := omega) only [f_X8_checksum_l74, nlit, nltT, ↓reduceIte]
    rfl
  | succ r ih =>
    intro k f v hk hf
    obtain ⟨f, rfl⟩ : ∃ m, f = m + 1 := ⟨f - 1, by omega⟩
    have n1 := xv_bid (N := N) (b := b) (w := k) (by omega) hW hb (by omega)
    refine Eq.trans ?_ (ih (k + 1) f (ck v (nI (d (118 + 3 * b + k)))) (by omega) (by omega))
    simp (disch := omega) only [f_X8_checksum_l74, nlit, nltF, nadd, xo8 hW, n1, zth, ↓reduceIte, Option.bind_some]
    rfl
theorem x_ck8 {k1 : Int64 → zH → Option ((Int64 ⊕ Nat) × zH)} (hNN : 1400 < N) (hW : WC b0 h (d, K, t, (q, hd, hK, ht), ea, z, B)) : ∀ (r b f : Nat) (v : Int64), b + r = d 5 → r < f → f_X8_checksum_l57 N b0 k1 f v (nI b) h = k1 (bidsF d r b v) h := by
  obtain ⟨⟨⟨hGo, hG, hS0⟩, hBr⟩, ⟨hA, hD, hC⟩, hH, hHG⟩ := id hW
  have g5 := hD.1.2.2.2.2.2.1
  have hGo : Gob b0 h ea := hGo
  have k5 := w_size_31 (N := N) hD hA
  intro r
  induction r with
  | zero =>
    intro b f v hk hf
    obtain ⟨f, rfl⟩ : ∃ m, f = m + 1 := ⟨f - 1, by omega⟩
    simp (disch := omega) only [f_X8_checksum_l57, w_g2 hGo, w_A hD hA, w_o6 hA isR_31, k5, nleT, ↓reduceIte, Option.bind_some]
    rfl
  | succ r ih =>
    intro b f v hk hf
    obtain ⟨f, rfl⟩ : ∃ m, f = m + 1 := ⟨f - 1, by omega⟩
    have n1 := x_ck7 (N := N) (b := b) (k1 := fun (u19 : Int64) (h20 : zH) => f_X8_checksum_l57 N b0 k1 f u19 (nI b + (1 : Int32)) h20) hNN hW (by omega) 3 0 N v (by omega) (by omega)
    refine Eq.trans ?_ (ih (b + 1) f (ckF (fun w => nI (d (118 + 3 * b + w))) 3 0 v) (by omega) (by omega))
    simp (disch := omega) only [f_X8_checksum_l57, w_g2 hGo, w_A hD hA, w_o6 hA isR_31, k5, nleF, nlit, nadd, ↓reduceIte, Option.bind_some] at n1 ⊢
    exact n1
theorem x_checksum (hNN : 1400 < N) (hW : WC b0 h (d, K, t, (q, hd, hK, ht), ea, z, B)) : ∃ h', f_X8_checksum N b0 h = some (.inl (ckS d K t), h') ∧ WC b0 h' (d, K, t, (q, hd, hK, ht), ea, z, B) ∧ FrA b0 h h' := by
  have g1 := hW.2.1.2.1.1.2.1
  have g5 := hW.2.1.2.1.1.2.2.2.2.2.1
  obtain ⟨h1, q1, q2, q3⟩ := x_ck6 (N := N) (k1 := fun (u11 : Int64) (h12 : zH) => f_X8_checksum_l57 N b0 (fun (u21 : Int64) (h22 : zH) => (onO 8 b0 h22 (f_X8_product N b0 h22)).bind fun y23 => some ((.inl (((31 : Int64) * u21) + y23.1.toInt64)), y23.2)) N u11 (0 : Int32) h12) hNN (d 1) 0 N (ckF (toldN d) 9 0 0) h hW (by omega) (by omega)
  refine ⟨h1, ?_, q2, q3⟩
  have k4 := xv_product (N := N) (by omega) q2
  refine Eq.trans (x_ck1 hW 9 0 N 0 (by omega) (by omega)) ?_
  refine Eq.trans q1 ?_
  refine Eq.trans (x_ck8 hNN q2 (d 5) 0 N _ (by omega) (by omega)) ?_
  simp only [xo8 q2, k4, Option.bind_some]
  rfl
theorem x_bringBack {c : Nat} (hNN : 10 < N) (hD : GoodD (hd c)) (hH : HisAt b0 h (c + 1) hd hK ht) (hA : AucRaw b0 h (b0 + 46)) : ∃ h', f_X4_bringBack N (b0 + 84) (b0 + 46) h = some h' ∧ HisAt b0 h' c hd hK ht ∧ AucAt b0 h' (b0 + 46) (hd c) (hK c) (ht c) ∧ (∀ q, (q < b0 + 46 ∨ b0 + 81 ≤ q) → q ≠ b0 + 84 → hM h' q = hM h q) ∧ hS h' = hS h ∧ hN h' = hN h := by
  obtain ⟨o, ho, hq, h1, h2, h3, h4⟩ := hH
  have hi : (o + c) % 8 < 8 := Nat.mod_lt _ (by omega)
  have g2 : gI h (b0 + 84) 4 2 = some (nI (c + 1)) := gI_of' h1 rfl
  have g6 : pF h (b0 + 84) 4 2 (.int (nI c)) = some (hPut h (b0 + 84) (.inr (4, [.ref (b0 + 85), .int (nI o), .int (nI c)]))) := pF_of' h1 (by show 2 < 3; omega)
  have m1 : hM (hPut h (b0 + 84) (.inr (4, [.ref (b0 + 85), .int (nI o), .int (nI c)]))) (b0 + 84) = some (.inr (4, [.ref (b0 + 85), .int (nI o), .int (nI c)])) := by rw [hM_put, if_pos rfl]
  have fr : ∀ q, q ≠ b0 + 84 → hM (hPut h (b0 + 84) (.inr (4, [.ref (b0 + 85), .int (nI o), .int (nI c)]))) q = hM h q := fun q hq => by rw [hM_put, if_neg hq]
  have rr : ∀ rl k, RAd b0 h rl → k < 3 → rl + k ≠ b0 + 84 := by
    intro rl j hr hj
    obtain ⟨-, hr⟩ := hr
    rcases hr with ⟨i, h1, h2⟩ | ⟨i, h1, h2⟩ | h2 <;> omega
  generalize hg : hPut h (b0 + 84) (.inr (4, [.ref (b0 + 85), .int (nI o), .int (nI c)])) = g at *
  have hSg : hS g = hS h := by rw [← hg]; rfl
  have hNg : hN g = hN h := by rw [← hg]; rfl
  have a1 := AucAt_sim (h' := g) (h4 c (by omega)) (Nat.le_of_eq hSg.symm) (fun q _ _ => Or.inl (fr q (by omega))) (fun rl k hr hk => Or.inl (fr _ (rr rl k hr hk)))
  obtain ⟨k1, c1, c2, c3, c4, c5⟩ := AucAt_copy (N := N) hNN (AAd_now (b0 := b0)) (AAd_ring (b0 := b0) hi) (by omega) (AucRaw_sim hA (fun q _ _ => Or.inl (fr q (by omega)))) hD a1
  have g1 : gA g (b0 + 84) 4 0 = some (b0 + 85) := gA_of' m1 rfl
  have g7 : gI g (b0 + 84) 4 2 = some (nI c) := gI_of' m1 rfl
  have g3 := x_placeOf (N := N) ho (show c ≤ 8 by omega) m1
  have g8 : hM g (b0 + 85) = some (refE (ringF b0) 8) := (fr _ (by omega)).trans h2
  have g4 : ldQ g (b0 + 85) (nI ((o + c) % 8)) = some (b0 + 86 + 38 * ((o + c) % 8)) := by
    simp [ldQ, g8, refE, ringF, nI_nn (show (o + c) % 8 < 2 ^ 31 by omega), nI_clamp (show (o + c) % 8 < 2 ^ 31 by omega), hi]
  have o4 : ∀ F : Option (Int32 × zH), onO 4 (b0 + 84) g F = F := fun F => onO_of' m1
  have o5 : ∀ F : Option zH, onO 0 (b0 + 46) g F = F := fun F => onO_any (AucRaw_sim hA (fun q _ _ => Or.inl (fr q (by omega))))
  refine ⟨k1, ?_, ?_, c2, fun q h5 h6 => (c3 q (by omega)).trans (fr q h6), c4.trans hSg, c5.trans hNg⟩
  · simp (disch := omega) only [f_X4_bringBack, g2, g6, g1, g7, g3, g4, o4, o5, c1, nlit, nleF, nsub, Nat.add_sub_cancel, ↓reduceIte, Option.bind_some]
  · refine ⟨o, ho, by omega, (c3 _ (by omega)).trans m1, (c3 _ (by omega)).trans g8, fun i hi2 => AucRaw_sim (h3 i hi2) (fun q _ _ => Or.inl ((c3 q (by omega)).trans (fr q (by omega)))), fun k hk => ?_⟩
    refine AucAt_sim (h4 k (by omega)) (by omega) (fun q _ _ => Or.inl ((c3 q (by omega)).trans (fr q (by omega)))) (fun rl j hr hj => Or.inl ?_)
    have e1 := RAd_out hr (AAd_now (b0 := b0))
    exact (c3 _ (by omega)).trans (fr _ (rr rl j hr hj))
end M990

/-! ===== the class's answers ===== -/
def LK (b0 : Nat) (h h' : zH) : Prop := (∀ x, x < b0 ∨ b0 + 395 ≤ x → simc h h' x) ∧ hS h ≤ hS h' ∧ hS h' ≤ hS h + 1 ∧ hN h ≤ hN h' ∧ hN h' ≤ hN h + 6
def CT {α : Type} (b0 : Nat) (F : zH → Option (α × zH)) (h : zH) (r : α) (s' : St) : Prop := ∃ h', F h = some (r, h') ∧ WC b0 h' s' ∧ LK b0 h h'
section M60
variable {h h' h1 : zH} {b0 K N q z : Nat} {ea : Int32} {d : Nat → Nat} {t : Nat → Nat} {hd : Nat → Nat → Nat} {hK : Nat → Nat} {ht : Nat → Nat → Nat} {B : Nat → Int32}
theorem LK_rf : LK b0 h h := ⟨fun _ _ => Or.inl rfl, Nat.le_refl _, by omega, Nat.le_refl _, by omega⟩
theorem LK_thr {k : Nat} : LK b0 h (zthr k h) := ⟨fun _ _ => Or.inl rfl, Nat.le_succ _, by show hS h + 1 ≤ _; omega, Nat.le_add_right _ _, by show hN h + 6 ≤ _; omega⟩
theorem LK_fra (hf : FrA b0 h h') : LK b0 h h' := ⟨fun x hx => hf.1 x (by omega), Nat.le_of_eq hf.2.1.symm, by rw [hf.2.1]; omega, Nat.le_of_eq hf.2.2.1.symm, by rw [hf.2.2.1]; omega⟩
theorem LK_rem_fra (r3 : ∀ q, q < b0 + 84 ∨ b0 + 390 ≤ q → hM h1 q = hM h q) (r5 : hS h1 = hS h) (r6 : hN h1 = hN h) (hf : FrA b0 h1 h') : LK b0 h h' := ⟨fun x hx => simc_tr (Or.inl (r3 x (by omega))) (hf.1 x (by omega)), by rw [hf.2.1, r5]; omega, by rw [hf.2.1, r5]; omega, by rw [hf.2.2.1, r6]; omega, by rw [hf.2.2.1, r6]; omega⟩
variable {F : zH → Option ((Int32 ⊕ Nat) × zH)}
theorem C_thr {k : Nat} {s : St} (hW : WC b0 h s) (hF : F h = some (.inr k, zthr k h)) : CT b0 F h (.inr k) s := ⟨_, hF, WC_thr hW, LK_thr⟩
theorem C_val {α : Type} {F : zH → Option (α × zH)} {v : α} {s : St} (hW : WC b0 h s) (hF : F h = some (v, h)) : CT b0 F h v s := ⟨_, hF, hW, LK_rf⟩
theorem C_chg {d' : Nat → Nat} {v : Int32} (hW : WC b0 h (d, K, t, (q, hd, hK, ht), ea, z, B)) (hH1 : HisAt b0 h1 (q - forg q + 1) (remF hd d q) (remF hK K q) (remF ht t q)) (r3 : ∀ q, q < b0 + 84 ∨ b0 + 390 ≤ q → hM h1 q = hM h q) (r4 : ∀ q, b0 + 84 < q → (∃ i, i < 8 ∧ b0 + 121 + 38 * i ≤ q ∧ q < b0 + 124 + 38 * i) → hM h1 q = hM h q) (r5 : hS h1 = hS h) (r6 : hN h1 = hN h) (hF : F h = some (.inl v, h')) (hA : AucAt b0 h' (b0 + 46) d' K t) (hf : FrA b0 h1 h') (hD : GoodD d') (hC : CodeR d' K t) : CT b0 F h (.inl v) (d', K, t, (q - forg q + 1, remF hd d q, remF hK K q, remF ht t q), ea, z, B) :=
  ⟨h', hF, WC_fra (WC_rem hW hH1 r3 r4 r5) hf hA hD hC, LK_rem_fra r3 r5 r6 hf⟩
theorem C_state (hNN : 1400 < N) (hW : WC b0 h (d, K, t, (q, hd, hK, ht), ea, z, B)) {w : Nat} (hw : w < 9) : CT b0 (f_X8_state N b0 (nI w)) h (.inl (toldN d w)) (d, K, t, (q, hd, hK, ht), ea, z, B) := by
  obtain ⟨⟨⟨hGo, hG, hS0⟩, hBr⟩, ⟨hA, hD, hC⟩, hH, hHG⟩ := id hW
  obtain ⟨⟨g0, g1, g2, g3, g4, g5, g7⟩, gb, gl, gp, gm⟩ := id hD
  have hGo : Gob b0 h ea := hGo
  have kT := w_T hD hA
  have kA := w_A hD hA
  have e2 : (nI 1 = nI 0) = False := eq_false (by decide)
  have hq8 : q ≤ 8 := by obtain ⟨o, -, h9, -⟩ := hH; exact h9
  exact C_val hW (xv_state hW hw)
theorem C_state9 (hNN : 1400 < N) (hW : WC b0 h (d, K, t, (q, hd, hK, ht), ea, z, B))  : CT b0 (f_X8_state N b0 (nI 9)) h (.inr 1) (d, K, t, (q, hd, hK, ht), ea, z, B) := by
  obtain ⟨⟨⟨hGo, hG, hS0⟩, hBr⟩, ⟨hA, hD, hC⟩, hH, hHG⟩ := id hW
  obtain ⟨⟨g0, g1, g2, g3, g4, g5, g7⟩, gb, gl, gp, gm⟩ := id hD
  have hGo : Gob b0 h ea := hGo
  have kT := w_T hD hA
  have kA := w_A hD hA
  have e2 : (nI 1 = nI 0) = False := eq_false (by decide)
  have hq8 : q ≤ 8 := by obtain ⟨o, -, h9, -⟩ := hH; exact h9
  refine C_thr hW ?_
  simp (disch := omega) only [f_X8_state, nlit, neqF, ↓reduceIte]
theorem C_player (hNN : 1400 < N) (hW : WC b0 h (d, K, t, (q, hd, hK, ht), ea, z, B)) {p w : Nat} (hp : p < d 1) (hw : w < 3) : CT b0 (f_X8_player N b0 (nI p) (nI w)) h (.inl (nI (d (11 + 19 * p + w)))) (d, K, t, (q, hd, hK, ht), ea, z, B) := by
  obtain ⟨⟨⟨hGo, hG, hS0⟩, hBr⟩, ⟨hA, hD, hC⟩, hH, hHG⟩ := id hW
  obtain ⟨⟨g0, g1, g2, g3, g4, g5, g7⟩, gb, gl, gp, gm⟩ := id hD
  have hGo : Gob b0 h ea := hGo
  have kT := w_T hD hA
  have kA := w_A hD hA
  have e2 : (nI 1 = nI 0) = False := eq_false (by decide)
  have hq8 : q ≤ 8 := by obtain ⟨o, -, h9, -⟩ := hH; exact h9
  exact C_val hW (xv_player hW hp hw)
theorem C_playerN (hNN : 1400 < N) (hW : WC b0 h (d, K, t, (q, hd, hK, ht), ea, z, B)) {x y : Int32} (hx : ¬ inP x (d 1)) : CT b0 (f_X8_player N b0 x y) h (.inr 2) (d, K, t, (q, hd, hK, ht), ea, z, B) := by
  obtain ⟨⟨⟨hGo, hG, hS0⟩, hBr⟩, ⟨hA, hD, hC⟩, hH, hHG⟩ := id hW
  obtain ⟨⟨g0, g1, g2, g3, g4, g5, g7⟩, gb, gl, gp, gm⟩ := id hD
  have hGo : Gob b0 h ea := hGo
  have kT := w_T hD hA
  have kA := w_A hD hA
  have e2 : (nI 1 = nI 0) = False := eq_false (by decide)
  have hq8 : q ≤ 8 := by obtain ⟨o, -, h9, -⟩ := hH; exact h9
  have k1 := w_nexisting (N := N) hGo hD hA hx
  refine C_thr hW ?_
  simp only [f_X8_player, w_o8 hGo, k1, zth, Option.bind_some]
theorem C_card0 (hNN : 1400 < N) (hW : WC b0 h (d, K, t, (q, hd, hK, ht), ea, z, B)) {p c : Nat} (hp : p < d 1) (hc : c < d (11 + 19 * p + 1)) : CT b0 (f_X8_card N b0 (nI p) (nI c) (nI 0)) h (.inl (nI (d (11 + 19 * p + 3 + 2 * c)))) (d, K, t, (q, hd, hK, ht), ea, z, B) := by
  obtain ⟨⟨⟨hGo, hG, hS0⟩, hBr⟩, ⟨hA, hD, hC⟩, hH, hHG⟩ := id hW
  obtain ⟨⟨g0, g1, g2, g3, g4, g5, g7⟩, gb, gl, gp, gm⟩ := id hD
  have hGo : Gob b0 h ea := hGo
  have kT := w_T hD hA
  have kA := w_A hD hA
  have e2 : (nI 1 = nI 0) = False := eq_false (by decide)
  have hq8 : q ≤ 8 := by obtain ⟨o, -, h9, -⟩ := hH; exact h9
  exact C_val hW (xv_card0 hNN hW hp hc).1
theorem C_card1 (hNN : 1400 < N) (hW : WC b0 h (d, K, t, (q, hd, hK, ht), ea, z, B)) {p c : Nat} (hp : p < d 1) (hc : c < d (11 + 19 * p + 1)) : CT b0 (f_X8_card N b0 (nI p) (nI c) (nI 1)) h (.inl (nI (d (11 + 19 * p + 3 + 2 * c + 1)))) (d, K, t, (q, hd, hK, ht), ea, z, B) := by
  obtain ⟨⟨⟨hGo, hG, hS0⟩, hBr⟩, ⟨hA, hD, hC⟩, hH, hHG⟩ := id hW
  obtain ⟨⟨g0, g1, g2, g3, g4, g5, g7⟩, gb, gl, gp, gm⟩ := id hD
  have hGo : Gob b0 h ea := hGo
  have kT := w_T hD hA
  have kA := w_A hD hA
  have e2 : (nI 1 = nI 0) = False := eq_false (by decide)
  have hq8 : q ≤ 8 := by obtain ⟨o, -, h9, -⟩ := hH; exact h9
  exact C_val hW (xv_card0 hNN hW hp hc).2
theorem C_card2 (hNN : 1400 < N) (hW : WC b0 h (d, K, t, (q, hd, hK, ht), ea, z, B)) {p c : Nat} (hp : p < d 1) (hc : c < d (11 + 19 * p + 1)) : CT b0 (f_X8_card N b0 (nI p) (nI c) (nI 2)) h (.inl (nI (priT d K t p c))) (d, K, t, (q, hd, hK, ht), ea, z, B) := by
  obtain ⟨⟨⟨hGo, hG, hS0⟩, hBr⟩, ⟨hA, hD, hC⟩, hH, hHG⟩ := id hW
  obtain ⟨⟨g0, g1, g2, g3, g4, g5, g7⟩, gb, gl, gp, gm⟩ := id hD
  have hGo : Gob b0 h ea := hGo
  have kT := w_T hD hA
  have kA := w_A hD hA
  have e2 : (nI 1 = nI 0) = False := eq_false (by decide)
  have hq8 : q ≤ 8 := by obtain ⟨o, -, h9, -⟩ := hH; exact h9
  obtain ⟨h', q1, q2, q3⟩ := xv_card2 hNN hW hp hc
  exact ⟨h', q1, q2, LK_fra q3⟩
theorem C_cardN (hNN : 1400 < N) (hW : WC b0 h (d, K, t, (q, hd, hK, ht), ea, z, B)) {p : Nat} {y w : Int32} (hp : p < d 1) (hy : ¬ inP y (d (11 + 19 * p + 1))) : CT b0 (f_X8_card N b0 (nI p) y w) h (.inr 3) (d, K, t, (q, hd, hK, ht), ea, z, B) := by
  obtain ⟨⟨⟨hGo, hG, hS0⟩, hBr⟩, ⟨hA, hD, hC⟩, hH, hHG⟩ := id hW
  obtain ⟨⟨g0, g1, g2, g3, g4, g5, g7⟩, gb, gl, gp, gm⟩ := id hD
  have hGo : Gob b0 h ea := hGo
  have kT := w_T hD hA
  have kA := w_A hD hA
  have e2 : (nI 1 = nI 0) = False := eq_false (by decide)
  have hq8 : q ≤ 8 := by obtain ⟨o, -, h9, -⟩ := hH; exact h9
  have k1 := w_existing (N := N) hGo hD hA hp
  obtain ⟨p8, pw, pc⟩ := gp p hp
  have hp5 : p < 5 := by omega
  have kB := w_bA hp hD hA
  have k2 := w_nholds_e (N := N) hp hy hD hA
  refine C_thr hW ?_
  simp (disch := omega) only [f_X8_card, nlit, w_o8 hGo, k1, kB, w_o6 hA (isR_e hp5), k2, zth, Option.bind_some, ↓reduceIte]
theorem C_cardP (hNN : 1400 < N) (hW : WC b0 h (d, K, t, (q, hd, hK, ht), ea, z, B)) {x y w : Int32} (hx : ¬ inP x (d 1)) : CT b0 (f_X8_card N b0 x y w) h (.inr 2) (d, K, t, (q, hd, hK, ht), ea, z, B) := by
  obtain ⟨⟨⟨hGo, hG, hS0⟩, hBr⟩, ⟨hA, hD, hC⟩, hH, hHG⟩ := id hW
  obtain ⟨⟨g0, g1, g2, g3, g4, g5, g7⟩, gb, gl, gp, gm⟩ := id hD
  have hGo : Gob b0 h ea := hGo
  have kT := w_T hD hA
  have kA := w_A hD hA
  have e2 : (nI 1 = nI 0) = False := eq_false (by decide)
  have hq8 : q ≤ 8 := by obtain ⟨o, -, h9, -⟩ := hH; exact h9
  have k1 := w_nexisting (N := N) hGo hD hA hx
  refine C_thr hW ?_
  simp only [f_X8_card, w_o8 hGo, k1, zth, Option.bind_some]
theorem C_bid (hNN : 1400 < N) (hW : WC b0 h (d, K, t, (q, hd, hK, ht), ea, z, B)) {b w : Nat} (hb : b < d 5) (hw : w < 3) : CT b0 (f_X8_bid N b0 (nI b) (nI w)) h (.inl (nI (d (118 + 3 * b + w)))) (d, K, t, (q, hd, hK, ht), ea, z, B) := by
  obtain ⟨⟨⟨hGo, hG, hS0⟩, hBr⟩, ⟨hA, hD, hC⟩, hH, hHG⟩ := id hW
  obtain ⟨⟨g0, g1, g2, g3, g4, g5, g7⟩, gb, gl, gp, gm⟩ := id hD
  have hGo : Gob b0 h ea := hGo
  have kT := w_T hD hA
  have kA := w_A hD hA
  have e2 : (nI 1 = nI 0) = False := eq_false (by decide)
  have hq8 : q ≤ 8 := by obtain ⟨o, -, h9, -⟩ := hH; exact h9
  exact C_val hW (xv_bid (by omega) hW hb hw)
theorem C_bidN (hNN : 1400 < N) (hW : WC b0 h (d, K, t, (q, hd, hK, ht), ea, z, B)) {x y : Int32} (hx : ¬ inP x (d 5)) : CT b0 (f_X8_bid N b0 x y) h (.inr 3) (d, K, t, (q, hd, hK, ht), ea, z, B) := by
  obtain ⟨⟨⟨hGo, hG, hS0⟩, hBr⟩, ⟨hA, hD, hC⟩, hH, hHG⟩ := id hW
  obtain ⟨⟨g0, g1, g2, g3, g4, g5, g7⟩, gb, gl, gp, gm⟩ := id hD
  have hGo : Gob b0 h ea := hGo
  have kT := w_T hD hA
  have kA := w_A hD hA
  have e2 : (nI 1 = nI 0) = False := eq_false (by decide)
  have hq8 : q ≤ 8 := by obtain ⟨o, -, h9, -⟩ := hH; exact h9
  have k1 := w_nholds_31 (N := N) hx hD hA
  refine C_thr hW ?_
  simp (disch := omega) only [f_X8_bid, nlit, w_o6 hA isR_31, w_g2 hGo, k1, kA, Option.bind_some, ↓reduceIte]
theorem C_product (hNN : 1400 < N) (hW : WC b0 h (d, K, t, (q, hd, hK, ht), ea, z, B))  : CT b0 (f_X8_product N b0) h (nI (numN (d 0) (prodF (bidE d) (d 5) 0 0))) (d, K, t, (q, hd, hK, ht), ea, z, B) := by
  obtain ⟨⟨⟨hGo, hG, hS0⟩, hBr⟩, ⟨hA, hD, hC⟩, hH, hHG⟩ := id hW
  obtain ⟨⟨g0, g1, g2, g3, g4, g5, g7⟩, gb, gl, gp, gm⟩ := id hD
  have hGo : Gob b0 h ea := hGo
  have kT := w_T hD hA
  have kA := w_A hD hA
  have e2 : (nI 1 = nI 0) = False := eq_false (by decide)
  have hq8 : q ≤ 8 := by obtain ⟨o, -, h9, -⟩ := hH; exact h9
  exact C_val hW (xv_product (by omega) hW)
theorem C_checksum (hNN : 1400 < N) (hW : WC b0 h (d, K, t, (q, hd, hK, ht), ea, z, B))  : CT b0 (f_X8_checksum N b0) h (.inl (ckS d K t)) (d, K, t, (q, hd, hK, ht), ea, z, B) := by
  obtain ⟨⟨⟨hGo, hG, hS0⟩, hBr⟩, ⟨hA, hD, hC⟩, hH, hHG⟩ := id hW
  obtain ⟨⟨g0, g1, g2, g3, g4, g5, g7⟩, gb, gl, gp, gm⟩ := id hD
  have hGo : Gob b0 h ea := hGo
  have kT := w_T hD hA
  have kA := w_A hD hA
  have e2 : (nI 1 = nI 0) = False := eq_false (by decide)
  have hq8 : q ≤ 8 := by obtain ⟨o, -, h9, -⟩ := hH; exact h9
  obtain ⟨h', q1, q2, q3⟩ := x_checksum hNN hW
  exact ⟨h', q1, q2, LK_fra q3⟩
theorem C_error (hNN : 1400 < N) (hW : WC b0 h (d, K, t, (q, hd, hK, ht), ea, z, B))  : CT b0 (f_X8_errorOffset N b0) h ea (d, K, t, (q, hd, hK, ht), ea, z, B) := by
  obtain ⟨⟨⟨hGo, hG, hS0⟩, hBr⟩, ⟨hA, hD, hC⟩, hH, hHG⟩ := id hW
  obtain ⟨⟨g0, g1, g2, g3, g4, g5, g7⟩, gb, gl, gp, gm⟩ := id hD
  have hGo : Gob b0 h ea := hGo
  have kT := w_T hD hA
  have kA := w_A hD hA
  have e2 : (nI 1 = nI 0) = False := eq_false (by decide)
  have hq8 : q ≤ 8 := by obtain ⟨o, -, h9, -⟩ := hH; exact h9
  refine C_val hW ?_
  simp only [f_X8_errorOffset, w_g5 hGo, Option.bind_some]
theorem C_prodOfN (hNN : 1400 < N) (hW : WC b0 h (d, K, t, (q, hd, hK, ht), ea, z, B)) {y : Int32} : CT b0 (f_X8_productOf N b0 (-nI 1) y) h (.inr 1) (d, K, t, (q, hd, hK, ht), ea, z, B) := by
  obtain ⟨⟨⟨hGo, hG, hS0⟩, hBr⟩, ⟨hA, hD, hC⟩, hH, hHG⟩ := id hW
  obtain ⟨⟨g0, g1, g2, g3, g4, g5, g7⟩, gb, gl, gp, gm⟩ := id hD
  have hGo : Gob b0 h ea := hGo
  have kT := w_T hD hA
  have kA := w_A hD hA
  have e2 : (nI 1 = nI 0) = False := eq_false (by decide)
  have hq8 : q ≤ 8 := by obtain ⟨o, -, h9, -⟩ := hH; exact h9
  refine C_thr hW ?_
  have e9 : (-nI 1 < nI 0) = True := eq_true (by decide)
  simp only [f_X8_productOf, nlit, e9, ↓reduceIte]
theorem C_reachN (hNN : 1400 < N) (hW : WC b0 h (d, K, t, (q, hd, hK, ht), ea, z, B)) {x : Int32} (hx : ¬ inP x (d 1)) : CT b0 (f_X8_reach N b0 x) h (.inr 2) (d, K, t, (q, hd, hK, ht), ea, z, B) := by
  obtain ⟨⟨⟨hGo, hG, hS0⟩, hBr⟩, ⟨hA, hD, hC⟩, hH, hHG⟩ := id hW
  obtain ⟨⟨g0, g1, g2, g3, g4, g5, g7⟩, gb, gl, gp, gm⟩ := id hD
  have hGo : Gob b0 h ea := hGo
  have kT := w_T hD hA
  have kA := w_A hD hA
  have e2 : (nI 1 = nI 0) = False := eq_false (by decide)
  have hq8 : q ≤ 8 := by obtain ⟨o, -, h9, -⟩ := hH; exact h9
  have k1 := w_nexisting (N := N) hGo hD hA hx
  refine C_thr hW ?_
  simp only [f_X8_reach, w_g4 hGo, w_o8 hGo, k1, zth, Option.bind_some]
theorem C_fewestN (hNN : 1400 < N) (hW : WC b0 h (d, K, t, (q, hd, hK, ht), ea, z, B)) {x : Int32} (hx : ¬ inP x (d 1)) : CT b0 (f_X8_fewest N b0 x) h (.inr 2) (d, K, t, (q, hd, hK, ht), ea, z, B) := by
  obtain ⟨⟨⟨hGo, hG, hS0⟩, hBr⟩, ⟨hA, hD, hC⟩, hH, hHG⟩ := id hW
  obtain ⟨⟨g0, g1, g2, g3, g4, g5, g7⟩, gb, gl, gp, gm⟩ := id hD
  have hGo : Gob b0 h ea := hGo
  have kT := w_T hD hA
  have kA := w_A hD hA
  have e2 : (nI 1 = nI 0) = False := eq_false (by decide)
  have hq8 : q ≤ 8 := by obtain ⟨o, -, h9, -⟩ := hH; exact h9
  have k1 := w_nexisting (N := N) hGo hD hA hx
  refine C_thr hW ?_
  simp only [f_X8_fewest, w_g4 hGo, w_o8 hGo, k1, zth, Option.bind_some]
theorem C_order (hNN : 1400 < N) (hW : WC b0 h (d, K, t, (q, hd, hK, ht), ea, z, B)) {x : Int32} {e : Nat} (hx : eltI (d 0) x = some e) : CT b0 (f_X8_order N b0 x) h (.inl (nI (ordN e))) (d, K, t, (q, hd, hK, ht), ea, z, B) := by
  obtain ⟨⟨⟨hGo, hG, hS0⟩, hBr⟩, ⟨hA, hD, hC⟩, hH, hHG⟩ := id hW
  obtain ⟨⟨g0, g1, g2, g3, g4, g5, g7⟩, gb, gl, gp, gm⟩ := id hD
  have hGo : Gob b0 h ea := hGo
  have kT := w_T hD hA
  have kA := w_A hD hA
  have e2 : (nI 1 = nI 0) = False := eq_false (by decide)
  have hq8 : q ≤ 8 := by obtain ⟨o, -, h9, -⟩ := hH; exact h9
  have kx := w_elementOf (N := N) (x := x) (by omega) hGo hG hD hA
  have f8 := fct_le g0
  rw [hx] at kx
  replace kx : f_X8_elementOf N b0 x h = some (.inl (nI e), h) := kx
  obtain ⟨x1, x2⟩ := eltI_some g0 hx
  subst x2
  refine C_val hW ?_
  have k4 := x_period (N := N) hG (by omega) (show e < 120 by omega)
  simp only [f_X8_order, w_g0 hGo, w_o8 hGo, w_o2 hG, kx, k4, zth, Option.bind_some]
theorem C_orderN (hNN : 1400 < N) (hW : WC b0 h (d, K, t, (q, hd, hK, ht), ea, z, B)) {x : Int32} (hx : eltI (d 0) x = none) : CT b0 (f_X8_order N b0 x) h (.inr 1) (d, K, t, (q, hd, hK, ht), ea, z, B) := by
  obtain ⟨⟨⟨hGo, hG, hS0⟩, hBr⟩, ⟨hA, hD, hC⟩, hH, hHG⟩ := id hW
  obtain ⟨⟨g0, g1, g2, g3, g4, g5, g7⟩, gb, gl, gp, gm⟩ := id hD
  have hGo : Gob b0 h ea := hGo
  have kT := w_T hD hA
  have kA := w_A hD hA
  have e2 : (nI 1 = nI 0) = False := eq_false (by decide)
  have hq8 : q ≤ 8 := by obtain ⟨o, -, h9, -⟩ := hH; exact h9
  have kx := w_elementOf (N := N) (x := x) (by omega) hGo hG hD hA
  rw [hx] at kx
  refine C_thr hW ?_
  simp only [f_X8_order, w_g0 hGo, w_o8 hGo, kx, zth, Option.bind_some]
theorem C_playO (hNN : 1400 < N) (hW : WC b0 h (d, K, t, (q, hd, hK, ht), ea, z, B)) {x : Int32} (ho : overN d = true) : CT b0 (f_X8_play N b0 x) h (.inr 0) (d, K, t, (q, hd, hK, ht), ea, z, B) := by
  obtain ⟨⟨⟨hGo, hG, hS0⟩, hBr⟩, ⟨hA, hD, hC⟩, hH, hHG⟩ := id hW
  obtain ⟨⟨g0, g1, g2, g3, g4, g5, g7⟩, gb, gl, gp, gm⟩ := id hD
  have hGo : Gob b0 h ea := hGo
  have kT := w_T hD hA
  have kA := w_A hD hA
  have e2 : (nI 1 = nI 0) = False := eq_false (by decide)
  have hq8 : q ≤ 8 := by obtain ⟨o, -, h9, -⟩ := hH; exact h9
  have k1 := w_noturn (N := N) hGo hD hA ho
  refine C_thr hW ?_
  simp only [f_X8_play, w_o8 hGo, k1, zth, Option.bind_some]
theorem C_playN (hNN : 1400 < N) (hW : WC b0 h (d, K, t, (q, hd, hK, ht), ea, z, B)) {x : Int32} (ho : overN d = false) (hx : ¬ inP x (d (11 + 19 * d 4 + 1))) : CT b0 (f_X8_play N b0 x) h (.inr 3) (d, K, t, (q, hd, hK, ht), ea, z, B) := by
  obtain ⟨⟨⟨hGo, hG, hS0⟩, hBr⟩, ⟨hA, hD, hC⟩, hH, hHG⟩ := id hW
  obtain ⟨⟨g0, g1, g2, g3, g4, g5, g7⟩, gb, gl, gp, gm⟩ := id hD
  have hGo : Gob b0 h ea := hGo
  have kT := w_T hD hA
  have kA := w_A hD hA
  have e2 : (nI 1 = nI 0) = False := eq_false (by decide)
  have hq8 : q ≤ 8 := by obtain ⟨o, -, h9, -⟩ := hH; exact h9
  obtain ⟨o1, o2⟩ := overN_false ho
  have h4 : d 4 < d 1 := by omega
  have h45 : d 4 < 5 := by omega
  obtain ⟨p8, pw, pc⟩ := gp _ h4
  have k1 := w_turn (N := N) hGo hD hA ho
  have kB := w_bA h4 hD hA
  have k2 := w_nholds_e (N := N) h4 hx hD hA
  refine C_thr hW ?_
  simp (disch := omega) only [f_X8_play, nlit, w_o8 hGo, k1, kB, w_o6 hA (isR_e h45), k2, zth, Option.bind_some, ↓reduceIte]
theorem C_playR (hNN : 1400 < N) (hW : WC b0 h (d, K, t, (q, hd, hK, ht), ea, z, B)) {c : Nat} (ho : overN d = false) (hc : c < d (11 + 19 * d 4 + 1)) (hb : playB d (priT d K t (d 4) c)) : CT b0 (f_X8_play N b0 (nI c)) h (.inl (-nI 1)) (d, K, t, (q - forg q + 1, remF hd d q, remF hK K q, remF ht t q), ea, z, B) := by
  obtain ⟨⟨⟨hGo, hG, hS0⟩, hBr⟩, ⟨hA, hD, hC⟩, hH, hHG⟩ := id hW
  obtain ⟨⟨g0, g1, g2, g3, g4, g5, g7⟩, gb, gl, gp, gm⟩ := id hD
  have hGo : Gob b0 h ea := hGo
  have kT := w_T hD hA
  have kA := w_A hD hA
  have e2 : (nI 1 = nI 0) = False := eq_false (by decide)
  have hq8 : q ≤ 8 := by obtain ⟨o, -, h9, -⟩ := hH; exact h9
  obtain ⟨o1, o2⟩ := overN_false ho
  have h4 : d 4 < d 1 := by omega
  have h45 : d 4 < 5 := by omega
  obtain ⟨p8, pw, pc⟩ := gp _ h4
  have k1 := w_turn (N := N) hGo hD hA ho
  have kB := w_bA h4 hD hA
  have k2 := w_holds_e (N := N) h4 ⟨c, hc, rfl⟩ hD hA
  obtain ⟨h1, r1, r2, r3, r4, r5, r6⟩ := x_remember (N := N) (b0 := b0) (by omega) hD hH hA
  have hG1 := GrpAt_sim hG (fun k hk => Or.inl (r3 (b0 + 1 + k) (by omega)))
  have hGo1 : Gob b0 h1 ea := (r3 b0 (by omega)).trans hGo
  have hA1 : AucAt b0 h1 (b0 + 46) d K t := AucAt_sim hA (Nat.le_of_eq r5.symm) (fun x _ _ => Or.inl (r3 x (by omega))) (fun rl k hr hk => Or.inl (RAd_rem r3 r4 hr hk))
  have o4 : ∀ F : Option zH, onO 4 (b0 + 84) h F = F := fun F => by obtain ⟨o, -, -, h9, -⟩ := hH; exact onO_of' h9
  obtain ⟨h', c1, c2, c3⟩ := A_play (N := N) (b0 := b0) (c := c) (by omega) hG1 hD hC hA1 ho hc
  have hx9 : priT d K t (d 4) c ≤ 9999 := priN_le _
  obtain ⟨c4, c5⟩ := c1 hb
  refine C_chg (h1 := h1) (h' := h') (d' := d) (v := -nI 1) hW r2 r3 r4 r5 r6 ?_ c5 c3 hD hC
  simp (disch := omega) only [f_X8_play, nlit, neqT, neqF, w_o8 hGo, k1, kB, w_o6 hA (isR_e h45), k2, e2, w_g2 hGo, w_g3 hGo, w_g2 hGo1, o4, r1, w_o0 hA1, c4, zth, Option.bind_some, ↓reduceIte]
theorem C_playY (hNN : 1400 < N) (hW : WC b0 h (d, K, t, (q, hd, hK, ht), ea, z, B)) {c : Nat} (ho : overN d = false) (hc : c < d (11 + 19 * d 4 + 1)) (hb : ¬ playB d (priT d K t (d 4) c)) : CT b0 (f_X8_play N b0 (nI c)) h (.inl (b2 (winN (playD d c (priT d K t (d 4) c))))) (finN (playD d c (priT d K t (d 4) c)) (d 4), K, t, (q - forg q + 1, remF hd d q, remF hK K q, remF ht t q), ea, z, B) := by
  obtain ⟨⟨⟨hGo, hG, hS0⟩, hBr⟩, ⟨hA, hD, hC⟩, hH, hHG⟩ := id hW
  obtain ⟨⟨g0, g1, g2, g3, g4, g5, g7⟩, gb, gl, gp, gm⟩ := id hD
  have hGo : Gob b0 h ea := hGo
  have kT := w_T hD hA
  have kA := w_A hD hA
  have e2 : (nI 1 = nI 0) = False := eq_false (by decide)
  have hq8 : q ≤ 8 := by obtain ⟨o, -, h9, -⟩ := hH; exact h9
  obtain ⟨o1, o2⟩ := overN_false ho
  have h4 : d 4 < d 1 := by omega
  have h45 : d 4 < 5 := by omega
  obtain ⟨p8, pw, pc⟩ := gp _ h4
  have k1 := w_turn (N := N) hGo hD hA ho
  have kB := w_bA h4 hD hA
  have k2 := w_holds_e (N := N) h4 ⟨c, hc, rfl⟩ hD hA
  obtain ⟨h1, r1, r2, r3, r4, r5, r6⟩ := x_remember (N := N) (b0 := b0) (by omega) hD hH hA
  have hG1 := GrpAt_sim hG (fun k hk => Or.inl (r3 (b0 + 1 + k) (by omega)))
  have hGo1 : Gob b0 h1 ea := (r3 b0 (by omega)).trans hGo
  have hA1 : AucAt b0 h1 (b0 + 46) d K t := AucAt_sim hA (Nat.le_of_eq r5.symm) (fun x _ _ => Or.inl (r3 x (by omega))) (fun rl k hr hk => Or.inl (RAd_rem r3 r4 hr hk))
  have o4 : ∀ F : Option zH, onO 4 (b0 + 84) h F = F := fun F => by obtain ⟨o, -, -, h9, -⟩ := hH; exact onO_of' h9
  obtain ⟨h', c1, c2, c3⟩ := A_play (N := N) (b0 := b0) (c := c) (by omega) hG1 hD hC hA1 ho hc
  have hx9 : priT d K t (d 4) c ≤ 9999 := priN_le _
  obtain ⟨c4, c5⟩ := c2 hb
  have hb2 : ¬ (d 5 = 20 ∨ d (11 + 19 * d 4) < priT d K t (d 4) c) := hb
  have h5 : d 5 < 20 := by omega
  have hGp := GoodD_play hD h4 h5 hc (show priT d K t (d 4) c ≤ d (11 + 19 * d 4) by omega) hx9
  have hGf : GoodD (finN (playD d c (priT d K t (d 4) c)) (d 4)) := GoodD_fin hGp (by rw [playD_lo (by omega) (by omega) h45 p8]; rw [playD_lo (by omega) (by omega) h45 p8]; exact o2) (by rw [playD_lo (by omega) (by omega) h45 p8]; exact h4)
  refine C_chg (h1 := h1) (h' := h') (d' := finN (playD d c (priT d K t (d 4) c)) (d 4)) (v := b2 (winN (playD d c (priT d K t (d 4) c)))) hW r2 r3 r4 r5 r6 ?_ c5 c3 hGf (CodeR_sm (smC_tr (smC_play hD h4 h5) (smC_fin h45)) hC)
  simp (disch := omega) only [f_X8_play, nlit, neqT, neqF, w_o8 hGo, k1, kB, w_o6 hA (isR_e h45), k2, e2, w_g2 hGo, w_g3 hGo, w_g2 hGo1, o4, r1, w_o0 hA1, c4, zth, Option.bind_some, ↓reduceIte]
theorem C_cancelO (hNN : 1400 < N) (hW : WC b0 h (d, K, t, (q, hd, hK, ht), ea, z, B)) {x y : Int32} (ho : overN d = true) : CT b0 (f_X8_cancel N b0 x y) h (.inr 0) (d, K, t, (q, hd, hK, ht), ea, z, B) := by
  obtain ⟨⟨⟨hGo, hG, hS0⟩, hBr⟩, ⟨hA, hD, hC⟩, hH, hHG⟩ := id hW
  obtain ⟨⟨g0, g1, g2, g3, g4, g5, g7⟩, gb, gl, gp, gm⟩ := id hD
  have hGo : Gob b0 h ea := hGo
  have kT := w_T hD hA
  have kA := w_A hD hA
  have e2 : (nI 1 = nI 0) = False := eq_false (by decide)
  have hq8 : q ≤ 8 := by obtain ⟨o, -, h9, -⟩ := hH; exact h9
  have k1 := w_noturn (N := N) hGo hD hA ho
  refine C_thr hW ?_
  simp only [f_X8_cancel, w_o8 hGo, k1, zth, Option.bind_some]
theorem C_cancelN (hNN : 1400 < N) (hW : WC b0 h (d, K, t, (q, hd, hK, ht), ea, z, B)) {x y : Int32} (ho : overN d = false) (hx : ¬ inP x (d (11 + 19 * d 4 + 1))) : CT b0 (f_X8_cancel N b0 x y) h (.inr 3) (d, K, t, (q, hd, hK, ht), ea, z, B) := by
  obtain ⟨⟨⟨hGo, hG, hS0⟩, hBr⟩, ⟨hA, hD, hC⟩, hH, hHG⟩ := id hW
  obtain ⟨⟨g0, g1, g2, g3, g4, g5, g7⟩, gb, gl, gp, gm⟩ := id hD
  have hGo : Gob b0 h ea := hGo
  have kT := w_T hD hA
  have kA := w_A hD hA
  have e2 : (nI 1 = nI 0) = False := eq_false (by decide)
  have hq8 : q ≤ 8 := by obtain ⟨o, -, h9, -⟩ := hH; exact h9
  obtain ⟨o1, o2⟩ := overN_false ho
  have h4 : d 4 < d 1 := by omega
  have h45 : d 4 < 5 := by omega
  obtain ⟨p8, pw, pc⟩ := gp _ h4
  have k1 := w_turn (N := N) hGo hD hA ho
  have kB := w_bA h4 hD hA
  have k2 := w_nholds_e (N := N) h4 hx hD hA
  refine C_thr hW ?_
  simp (disch := omega) only [f_X8_cancel, nlit, w_o8 hGo, k1, kB, w_o6 hA (isR_e h45), k2, zth, Option.bind_some, ↓reduceIte]
theorem C_cancelB (hNN : 1400 < N) (hW : WC b0 h (d, K, t, (q, hd, hK, ht), ea, z, B)) {c : Nat} {y : Int32} (ho : overN d = false) (hc : c < d (11 + 19 * d 4 + 1)) (hy : ¬ inP y (d 5)) : CT b0 (f_X8_cancel N b0 (nI c) y) h (.inr 3) (d, K, t, (q, hd, hK, ht), ea, z, B) := by
  obtain ⟨⟨⟨hGo, hG, hS0⟩, hBr⟩, ⟨hA, hD, hC⟩, hH, hHG⟩ := id hW
  obtain ⟨⟨g0, g1, g2, g3, g4, g5, g7⟩, gb, gl, gp, gm⟩ := id hD
  have hGo : Gob b0 h ea := hGo
  have kT := w_T hD hA
  have kA := w_A hD hA
  have e2 : (nI 1 = nI 0) = False := eq_false (by decide)
  have hq8 : q ≤ 8 := by obtain ⟨o, -, h9, -⟩ := hH; exact h9
  obtain ⟨o1, o2⟩ := overN_false ho
  have h4 : d 4 < d 1 := by omega
  have h45 : d 4 < 5 := by omega
  obtain ⟨p8, pw, pc⟩ := gp _ h4
  have k1 := w_turn (N := N) hGo hD hA ho
  have kB := w_bA h4 hD hA
  have k2 := w_holds_e (N := N) h4 ⟨c, hc, rfl⟩ hD hA
  have k3 := w_nholds_31 (N := N) hy hD hA
  refine C_thr hW ?_
  simp (disch := omega) only [f_X8_cancel, nlit, w_o8 hGo, k1, kB, w_o6 hA (isR_e h45), k2, e2, w_g2 hGo, kA, w_o6 hA isR_31, k3, zth, Option.bind_some, ↓reduceIte]
theorem C_cancelR (hNN : 1400 < N) (hW : WC b0 h (d, K, t, (q, hd, hK, ht), ea, z, B)) {c b : Nat} (ho : overN d = false) (hc : c < d (11 + 19 * d 4 + 1)) (hb5 : b < d 5) (hb : canB d c b (priT d K t (d 4) c)) : CT b0 (f_X8_cancel N b0 (nI c) (nI b)) h (.inl (-nI 1)) (d, K, t, (q - forg q + 1, remF hd d q, remF hK K q, remF ht t q), ea, z, B) := by
  obtain ⟨⟨⟨hGo, hG, hS0⟩, hBr⟩, ⟨hA, hD, hC⟩, hH, hHG⟩ := id hW
  obtain ⟨⟨g0, g1, g2, g3, g4, g5, g7⟩, gb, gl, gp, gm⟩ := id hD
  have hGo : Gob b0 h ea := hGo
  have kT := w_T hD hA
  have kA := w_A hD hA
  have e2 : (nI 1 = nI 0) = False := eq_false (by decide)
  have hq8 : q ≤ 8 := by obtain ⟨o, -, h9, -⟩ := hH; exact h9
  obtain ⟨o1, o2⟩ := overN_false ho
  have h4 : d 4 < d 1 := by omega
  have h45 : d 4 < 5 := by omega
  obtain ⟨p8, pw, pc⟩ := gp _ h4
  have k1 := w_turn (N := N) hGo hD hA ho
  have kB := w_bA h4 hD hA
  have k2 := w_holds_e (N := N) h4 ⟨c, hc, rfl⟩ hD hA
  have k3 := w_holds_31 (N := N) ⟨b, hb5, rfl⟩ hD hA
  obtain ⟨h1, r1, r2, r3, r4, r5, r6⟩ := x_remember (N := N) (b0 := b0) (by omega) hD hH hA
  have hG1 := GrpAt_sim hG (fun k hk => Or.inl (r3 (b0 + 1 + k) (by omega)))
  have hGo1 : Gob b0 h1 ea := (r3 b0 (by omega)).trans hGo
  have hA1 : AucAt b0 h1 (b0 + 46) d K t := AucAt_sim hA (Nat.le_of_eq r5.symm) (fun x _ _ => Or.inl (r3 x (by omega))) (fun rl k hr hk => Or.inl (RAd_rem r3 r4 hr hk))
  have o4 : ∀ F : Option zH, onO 4 (b0 + 84) h F = F := fun F => by obtain ⟨o, -, -, h9, -⟩ := hH; exact onO_of' h9
  obtain ⟨h', c1, c2, c3⟩ := A_cancel (N := N) (b0 := b0) (c := c) (by omega) hG1 hD hC hA1 ho hc hb5
  have hx9 : priT d K t (d 4) c ≤ 9999 := priN_le _
  obtain ⟨c4, c5⟩ := c1 hb
  refine C_chg (h1 := h1) (h' := h') (d' := d) (v := -nI 1) hW r2 r3 r4 r5 r6 ?_ c5 c3 hD hC
  simp (disch := omega) only [f_X8_cancel, nlit, neqT, neqF, w_o8 hGo, k1, kB, w_o6 hA (isR_e h45), k2, e2, w_g2 hGo, w_g3 hGo, w_g2 hGo1, o4, r1, w_o0 hA1, kA, w_o6 hA isR_31, k3, c4, zth, Option.bind_some, ↓reduceIte]
theorem C_cancelY (hNN : 1400 < N) (hW : WC b0 h (d, K, t, (q, hd, hK, ht), ea, z, B)) {c b : Nat} (ho : overN d = false) (hc : c < d (11 + 19 * d 4 + 1)) (hb5 : b < d 5) (hb : ¬ canB d c b (priT d K t (d 4) c)) : CT b0 (f_X8_cancel N b0 (nI c) (nI b)) h (.inl (b2 (winN (canD d c b (priT d K t (d 4) c))))) (finN (canD d c b (priT d K t (d 4) c)) (d 4), K, t, (q - forg q + 1, remF hd d q, remF hK K q, remF ht t q), ea, z, B) := by
  obtain ⟨⟨⟨hGo, hG, hS0⟩, hBr⟩, ⟨hA, hD, hC⟩, hH, hHG⟩ := id hW
  obtain ⟨⟨g0, g1, g2, g3, g4, g5, g7⟩, gb, gl, gp, gm⟩ := id hD
  have hGo : Gob b0 h ea := hGo
  have kT := w_T hD hA
  have kA := w_A hD hA
  have e2 : (nI 1 = nI 0) = False := eq_false (by decide)
  have hq8 : q ≤ 8 := by obtain ⟨o, -, h9, -⟩ := hH; exact h9
  obtain ⟨o1, o2⟩ := overN_false ho
  have h4 : d 4 < d 1 := by omega
  have h45 : d 4 < 5 := by omega
  obtain ⟨p8, pw, pc⟩ := gp _ h4
  have k1 := w_turn (N := N) hGo hD hA ho
  have kB := w_bA h4 hD hA
  have k2 := w_holds_e (N := N) h4 ⟨c, hc, rfl⟩ hD hA
  have k3 := w_holds_31 (N := N) ⟨b, hb5, rfl⟩ hD hA
  obtain ⟨h1, r1, r2, r3, r4, r5, r6⟩ := x_remember (N := N) (b0 := b0) (by omega) hD hH hA
  have hG1 := GrpAt_sim hG (fun k hk => Or.inl (r3 (b0 + 1 + k) (by omega)))
  have hGo1 : Gob b0 h1 ea := (r3 b0 (by omega)).trans hGo
  have hA1 : AucAt b0 h1 (b0 + 46) d K t := AucAt_sim hA (Nat.le_of_eq r5.symm) (fun x _ _ => Or.inl (r3 x (by omega))) (fun rl k hr hk => Or.inl (RAd_rem r3 r4 hr hk))
  have o4 : ∀ F : Option zH, onO 4 (b0 + 84) h F = F := fun F => by obtain ⟨o, -, -, h9, -⟩ := hH; exact onO_of' h9
  obtain ⟨h', c1, c2, c3⟩ := A_cancel (N := N) (b0 := b0) (c := c) (by omega) hG1 hD hC hA1 ho hc hb5
  have hx9 : priT d K t (d 4) c ≤ 9999 := priN_le _
  obtain ⟨c4, c5⟩ := c2 hb
  have hb2 : ¬ (mulN (cardE d (d 4) c) (bidE d b) ≠ 0 ∨ priT d K t (d 4) c < d (118 + 3 * b + 2) ∨ d (11 + 19 * d 4) < priT d K t (d 4) c) := hb
  have q2 : d (118 + 3 * b + 2) ≤ priT d K t (d 4) c := Nat.le_of_not_lt fun hn => hb2 (Or.inr (Or.inl hn))
  have q3 : priT d K t (d 4) c ≤ d (11 + 19 * d 4) := Nat.le_of_not_lt fun hn => hb2 (Or.inr (Or.inr hn))
  have hGp := GoodD_can hD h4 hb5 hc q3 q2
  have hGf : GoodD (finN (canD d c b (priT d K t (d 4) c)) (d 4)) := GoodD_fin hGp (by rw [canD_lo (by omega) (by omega) h45 p8]; rw [canD_lo (by omega) (by omega) h45 p8]; exact o2) (by rw [canD_lo (by omega) (by omega) h45 p8]; exact h4)
  refine C_chg (h1 := h1) (h' := h') (d' := finN (canD d c b (priT d K t (d 4) c)) (d 4)) (v := b2 (winN (canD d c b (priT d K t (d 4) c)))) hW r2 r3 r4 r5 r6 ?_ c5 c3 hGf (CodeR_sm (smC_tr (smC_can hD h4 hb5) (smC_fin h45)) hC)
  simp (disch := omega) only [f_X8_cancel, nlit, neqT, neqF, w_o8 hGo, k1, kB, w_o6 hA (isR_e h45), k2, e2, w_g2 hGo, w_g3 hGo, w_g2 hGo1, o4, r1, w_o0 hA1, kA, w_o6 hA isR_31, k3, c4, zth, Option.bind_some, ↓reduceIte]
theorem C_passO (hNN : 1400 < N) (hW : WC b0 h (d, K, t, (q, hd, hK, ht), ea, z, B)) (ho : overN d = true) : CT b0 (f_X8_pass N b0) h (.inr 0) (d, K, t, (q, hd, hK, ht), ea, z, B) := by
  obtain ⟨⟨⟨hGo, hG, hS0⟩, hBr⟩, ⟨hA, hD, hC⟩, hH, hHG⟩ := id hW
  obtain ⟨⟨g0, g1, g2, g3, g4, g5, g7⟩, gb, gl, gp, gm⟩ := id hD
  have hGo : Gob b0 h ea := hGo
  have kT := w_T hD hA
  have kA := w_A hD hA
  have e2 : (nI 1 = nI 0) = False := eq_false (by decide)
  have hq8 : q ≤ 8 := by obtain ⟨o, -, h9, -⟩ := hH; exact h9
  have ko := w_over (N := N) hD hA
  rw [ho] at ko
  refine C_thr hW ?_
  simp only [f_X8_pass, nlit, b2_t', e2, w_g2 hGo, w_o0 hA, ko, Option.bind_some, ↓reduceIte]
theorem C_passY (hNN : 1400 < N) (hW : WC b0 h (d, K, t, (q, hd, hK, ht), ea, z, B)) (ho : overN d = false) : CT b0 (f_X8_pass N b0) h (.inl (b2 (decide (d 7 + 1 = d 1)))) (passN d, K, t, (q - forg q + 1, remF hd d q, remF hK K q, remF ht t q), ea, z, B) := by
  obtain ⟨⟨⟨hGo, hG, hS0⟩, hBr⟩, ⟨hA, hD, hC⟩, hH, hHG⟩ := id hW
  obtain ⟨⟨g0, g1, g2, g3, g4, g5, g7⟩, gb, gl, gp, gm⟩ := id hD
  have hGo : Gob b0 h ea := hGo
  have kT := w_T hD hA
  have kA := w_A hD hA
  have e2 : (nI 1 = nI 0) = False := eq_false (by decide)
  have hq8 : q ≤ 8 := by obtain ⟨o, -, h9, -⟩ := hH; exact h9
  have ko := w_over (N := N) hD hA
  rw [ho] at ko
  obtain ⟨h1, r1, r2, r3, r4, r5, r6⟩ := x_remember (N := N) (b0 := b0) (by omega) hD hH hA
  have hG1 := GrpAt_sim hG (fun k hk => Or.inl (r3 (b0 + 1 + k) (by omega)))
  have hGo1 : Gob b0 h1 ea := (r3 b0 (by omega)).trans hGo
  have hA1 : AucAt b0 h1 (b0 + 46) d K t := AucAt_sim hA (Nat.le_of_eq r5.symm) (fun x _ _ => Or.inl (r3 x (by omega))) (fun rl k hr hk => Or.inl (RAd_rem r3 r4 hr hk))
  have o4 : ∀ F : Option zH, onO 4 (b0 + 84) h F = F := fun F => by obtain ⟨o, -, -, h9, -⟩ := hH; exact onO_of' h9
  obtain ⟨h', c1, c2, c3⟩ := A_pass (N := N) (b0 := b0) hD hA1 ho
  refine C_chg (h1 := h1) (h' := h') (d' := passN d) (v := b2 (decide (d 7 + 1 = d 1))) hW r2 r3 r4 r5 r6 ?_ c2 c3 (GoodD_pass hD ho) (CodeR_sm (smC_pass d) hC)
  simp only [f_X8_pass, nlit, b2_f', w_g2 hGo, w_g3 hGo, w_g2 hGo1, w_o0 hA, w_o0 hA1, o4, r1, c1, ko, Option.bind_some, ↓reduceIte]
theorem C_giveP (hNN : 1400 < N) (hW : WC b0 h (d, K, t, (q, hd, hK, ht), ea, z, B)) {x y w : Int32} (hx : ¬ inP x (d 1)) : CT b0 (f_X8_give N b0 x y w) h (.inr 2) (d, K, t, (q, hd, hK, ht), ea, z, B) := by
  obtain ⟨⟨⟨hGo, hG, hS0⟩, hBr⟩, ⟨hA, hD, hC⟩, hH, hHG⟩ := id hW
  obtain ⟨⟨g0, g1, g2, g3, g4, g5, g7⟩, gb, gl, gp, gm⟩ := id hD
  have hGo : Gob b0 h ea := hGo
  have kT := w_T hD hA
  have kA := w_A hD hA
  have e2 : (nI 1 = nI 0) = False := eq_false (by decide)
  have hq8 : q ≤ 8 := by obtain ⟨o, -, h9, -⟩ := hH; exact h9
  have k1 := w_nexisting (N := N) hGo hD hA hx
  refine C_thr hW ?_
  simp only [f_X8_give, w_o8 hGo, k1, zth, Option.bind_some]
theorem C_giveB (hNN : 1400 < N) (hW : WC b0 h (d, K, t, (q, hd, hK, ht), ea, z, B)) {p e : Nat} (he : e < fctN (d 0)) (hy : eltI (d 0) (nI (numN (d 0) e)) = some e) (hp : p < d 1) : CT b0 (f_X8_give N b0 (nI p) (nI (numN (d 0) e)) (nI 1000)) h (.inr 1) (d, K, t, (q, hd, hK, ht), ea, z, B) := by
  obtain ⟨⟨⟨hGo, hG, hS0⟩, hBr⟩, ⟨hA, hD, hC⟩, hH, hHG⟩ := id hW
  obtain ⟨⟨g0, g1, g2, g3, g4, g5, g7⟩, gb, gl, gp, gm⟩ := id hD
  have hGo : Gob b0 h ea := hGo
  have kT := w_T hD hA
  have kA := w_A hD hA
  have e2 : (nI 1 = nI 0) = False := eq_false (by decide)
  have hq8 : q ≤ 8 := by obtain ⟨o, -, h9, -⟩ := hH; exact h9
  have ky := w_elementOf (N := N) (x := nI (numN (d 0) e)) (by omega) hGo hG hD hA
  have f8 := fct_le g0
  have k1 := w_existing (N := N) hGo hD hA hp
  obtain ⟨p8, pw, pc⟩ := gp p hp
  have hp5 : p < 5 := by omega
  have kB := w_bA hp hD hA
  rw [hy] at ky
  replace ky : f_X8_elementOf N b0 (nI (numN (d 0) e)) h = some (.inl (nI e), h) := ky
  refine C_thr hW ?_
  simp (disch := omega) only [f_X8_give, nlit, nltF, nleF, w_o8 hGo, k1, ky, zth, Option.bind_some, ↓reduceIte]
theorem C_giveF (hNN : 1400 < N) (hW : WC b0 h (d, K, t, (q, hd, hK, ht), ea, z, B)) {p e b : Nat} (he : e < fctN (d 0)) (hy : eltI (d 0) (nI (numN (d 0) e)) = some e) (hp : p < d 1) (b1 : 1 ≤ b) (b9 : b ≤ 999) (h8 : d (11 + 19 * p + 1) = 8) : CT b0 (f_X8_give N b0 (nI p) (nI (numN (d 0) e)) (nI b)) h (.inr 0) (d, K, t, (q, hd, hK, ht), ea, z, B) := by
  obtain ⟨⟨⟨hGo, hG, hS0⟩, hBr⟩, ⟨hA, hD, hC⟩, hH, hHG⟩ := id hW
  obtain ⟨⟨g0, g1, g2, g3, g4, g5, g7⟩, gb, gl, gp, gm⟩ := id hD
  have hGo : Gob b0 h ea := hGo
  have kT := w_T hD hA
  have kA := w_A hD hA
  have e2 : (nI 1 = nI 0) = False := eq_false (by decide)
  have hq8 : q ≤ 8 := by obtain ⟨o, -, h9, -⟩ := hH; exact h9
  have ky := w_elementOf (N := N) (x := nI (numN (d 0) e)) (by omega) hGo hG hD hA
  have f8 := fct_le g0
  have k1 := w_existing (N := N) hGo hD hA hp
  obtain ⟨p8, pw, pc⟩ := gp p hp
  have hp5 : p < 5 := by omega
  have kB := w_bA hp hD hA
  rw [hy] at ky
  replace ky : f_X8_elementOf N b0 (nI (numN (d 0) e)) h = some (.inl (nI e), h) := ky
  have k3 := w_full_y (N := N) hp h8 hD hA
  refine C_thr hW ?_
  simp (disch := omega) only [f_X8_give, nlit, nltF, nleT, w_o8 hGo, k1, ky, kB, w_o6 hA (isR_e hp5), k3, e2, zth, Option.bind_some, ↓reduceIte]
theorem C_giveY (hNN : 1400 < N) (hW : WC b0 h (d, K, t, (q, hd, hK, ht), ea, z, B)) {p e b : Nat} (he : e < fctN (d 0)) (hy : eltI (d 0) (nI (numN (d 0) e)) = some e) (hp : p < d 1) (b1 : 1 ≤ b) (b9 : b ≤ 999) (h8 : d (11 + 19 * p + 1) < 8) : CT b0 (f_X8_give N b0 (nI p) (nI (numN (d 0) e)) (nI b)) h (.inl (nI (d (11 + 19 * p + 1) + 1))) (giveN d p (numN (d 0) e) b, K, t, (q - forg q + 1, remF hd d q, remF hK K q, remF ht t q), ea, z, B) := by
  obtain ⟨⟨⟨hGo, hG, hS0⟩, hBr⟩, ⟨hA, hD, hC⟩, hH, hHG⟩ := id hW
  obtain ⟨⟨g0, g1, g2, g3, g4, g5, g7⟩, gb, gl, gp, gm⟩ := id hD
  have hGo : Gob b0 h ea := hGo
  have kT := w_T hD hA
  have kA := w_A hD hA
  have e2 : (nI 1 = nI 0) = False := eq_false (by decide)
  have hq8 : q ≤ 8 := by obtain ⟨o, -, h9, -⟩ := hH; exact h9
  have ky := w_elementOf (N := N) (x := nI (numN (d 0) e)) (by omega) hGo hG hD hA
  have f8 := fct_le g0
  have k1 := w_existing (N := N) hGo hD hA hp
  obtain ⟨p8, pw, pc⟩ := gp p hp
  have hp5 : p < 5 := by omega
  have kB := w_bA hp hD hA
  rw [hy] at ky
  replace ky : f_X8_elementOf N b0 (nI (numN (d 0) e)) h = some (.inl (nI e), h) := ky
  have k3 := w_full_n (N := N) hp (by omega) hD hA
  obtain ⟨h1, r1, r2, r3, r4, r5, r6⟩ := x_remember (N := N) (b0 := b0) (by omega) hD hH hA
  have hG1 := GrpAt_sim hG (fun k hk => Or.inl (r3 (b0 + 1 + k) (by omega)))
  have hGo1 : Gob b0 h1 ea := (r3 b0 (by omega)).trans hGo
  have hA1 : AucAt b0 h1 (b0 + 46) d K t := AucAt_sim hA (Nat.le_of_eq r5.symm) (fun x _ _ => Or.inl (r3 x (by omega))) (fun rl k hr hk => Or.inl (RAd_rem r3 r4 hr hk))
  have o4 : ∀ F : Option zH, onO 4 (b0 + 84) h F = F := fun F => by obtain ⟨o, -, -, h9, -⟩ := hH; exact onO_of' h9
  obtain ⟨h', c1, c2, c3⟩ := A_give (N := N) (b0 := b0) (p := p) (e := numN (d 0) e) (b := b) hD hA1 hp (by omega)
  have ei : idxN (d 0) (numN (d 0) e) = e := by unfold idxN; rw [elt_num g0 he]; rfl
  rw [ei] at c1
  have hGg : GoodD (giveN d p (numN (d 0) e) b) := GoodD_give hD hp (by omega) ⟨e, he, rfl⟩ b9
  have en : giveN d p (numN (d 0) e) b (11 + 19 * p + 1) = d (11 + 19 * p + 1) + 1 := giveN_n _ _ _ _
  have e1 : giveN d p (numN (d 0) e) b 1 = d 1 := giveN_out (by omega) (by omega) (by omega)
  refine C_chg (h1 := h1) (h' := h') (d' := giveN d p (numN (d 0) e) b) (v := nI (d (11 + 19 * p + 1) + 1)) hW r2 r3 r4 r5 r6 ?_ c2 c3 hGg (CodeR_sm (smC_give hp5 (by omega)) hC)
  have kB2 := w_bA (p := p) (by rw [e1]; exact hp) hGg c2
  have ks2 := w_size_e (N := N) (p := p) (by rw [e1]; exact hp) hGg c2
  rw [en] at ks2
  simp (disch := omega) only [f_X8_give, nlit, nltF, nleT, w_o8 hGo, k1, ky, kB, w_o6 hA (isR_e hp5), k3, w_g2 hGo, w_g3 hGo, o4, r1, w_o1 hA1 hp5, c1, kB2, w_o6 c2 (isR_e hp5), ks2, zth, Option.bind_some, ↓reduceIte]
theorem C_discardP (hNN : 1400 < N) (hW : WC b0 h (d, K, t, (q, hd, hK, ht), ea, z, B)) {x y : Int32} (hx : ¬ inP x (d 1)) : CT b0 (f_X8_discard N b0 x y) h (.inr 2) (d, K, t, (q, hd, hK, ht), ea, z, B) := by
  obtain ⟨⟨⟨hGo, hG, hS0⟩, hBr⟩, ⟨hA, hD, hC⟩, hH, hHG⟩ := id hW
  obtain ⟨⟨g0, g1, g2, g3, g4, g5, g7⟩, gb, gl, gp, gm⟩ := id hD
  have hGo : Gob b0 h ea := hGo
  have kT := w_T hD hA
  have kA := w_A hD hA
  have e2 : (nI 1 = nI 0) = False := eq_false (by decide)
  have hq8 : q ≤ 8 := by obtain ⟨o, -, h9, -⟩ := hH; exact h9
  have k1 := w_nexisting (N := N) hGo hD hA hx
  refine C_thr hW ?_
  simp only [f_X8_discard, w_o8 hGo, k1, zth, Option.bind_some]
theorem C_discardN (hNN : 1400 < N) (hW : WC b0 h (d, K, t, (q, hd, hK, ht), ea, z, B)) {p : Nat} {y : Int32} (hp : p < d 1) (hy : ¬ inP y (d (11 + 19 * p + 1))) : CT b0 (f_X8_discard N b0 (nI p) y) h (.inr 3) (d, K, t, (q, hd, hK, ht), ea, z, B) := by
  obtain ⟨⟨⟨hGo, hG, hS0⟩, hBr⟩, ⟨hA, hD, hC⟩, hH, hHG⟩ := id hW
  obtain ⟨⟨g0, g1, g2, g3, g4, g5, g7⟩, gb, gl, gp, gm⟩ := id hD
  have hGo : Gob b0 h ea := hGo
  have kT := w_T hD hA
  have kA := w_A hD hA
  have e2 : (nI 1 = nI 0) = False := eq_false (by decide)
  have hq8 : q ≤ 8 := by obtain ⟨o, -, h9, -⟩ := hH; exact h9
  have k1 := w_existing (N := N) hGo hD hA hp
  obtain ⟨p8, pw, pc⟩ := gp p hp
  have hp5 : p < 5 := by omega
  have kB := w_bA hp hD hA
  have k2 := w_nholds_e (N := N) hp hy hD hA
  refine C_thr hW ?_
  simp (disch := omega) only [f_X8_discard, nlit, w_o8 hGo, k1, kB, w_o6 hA (isR_e hp5), k2, zth, Option.bind_some, ↓reduceIte]
theorem C_discardY (hNN : 1400 < N) (hW : WC b0 h (d, K, t, (q, hd, hK, ht), ea, z, B)) {p c : Nat} (hp : p < d 1) (hc : c < d (11 + 19 * p + 1)) : CT b0 (f_X8_discard N b0 (nI p) (nI c)) h (.inl (nI (d (11 + 19 * p + 3 + 2 * c)))) (dropN d p c, K, t, (q - forg q + 1, remF hd d q, remF hK K q, remF ht t q), ea, z, B) := by
  obtain ⟨⟨⟨hGo, hG, hS0⟩, hBr⟩, ⟨hA, hD, hC⟩, hH, hHG⟩ := id hW
  obtain ⟨⟨g0, g1, g2, g3, g4, g5, g7⟩, gb, gl, gp, gm⟩ := id hD
  have hGo : Gob b0 h ea := hGo
  have kT := w_T hD hA
  have kA := w_A hD hA
  have e2 : (nI 1 = nI 0) = False := eq_false (by decide)
  have hq8 : q ≤ 8 := by obtain ⟨o, -, h9, -⟩ := hH; exact h9
  have k1 := w_existing (N := N) hGo hD hA hp
  obtain ⟨p8, pw, pc⟩ := gp p hp
  have hp5 : p < 5 := by omega
  have kB := w_bA hp hD hA
  have k2 := w_holds_e (N := N) hp ⟨c, hc, rfl⟩ hD hA
  obtain ⟨h1, r1, r2, r3, r4, r5, r6⟩ := x_remember (N := N) (b0 := b0) (by omega) hD hH hA
  have hG1 := GrpAt_sim hG (fun k hk => Or.inl (r3 (b0 + 1 + k) (by omega)))
  have hGo1 : Gob b0 h1 ea := (r3 b0 (by omega)).trans hGo
  have hA1 : AucAt b0 h1 (b0 + 46) d K t := AucAt_sim hA (Nat.le_of_eq r5.symm) (fun x _ _ => Or.inl (r3 x (by omega))) (fun rl k hr hk => Or.inl (RAd_rem r3 r4 hr hk))
  have o4 : ∀ F : Option zH, onO 4 (b0 + 84) h F = F := fun F => by obtain ⟨o, -, -, h9, -⟩ := hH; exact onO_of' h9
  obtain ⟨h', c1, c2, c3⟩ := A_drop (N := N) (b0 := b0) (p := p) (c := c) (by omega) hD hA1 hp hc
  have hGg := GoodD_drop hD hp hc
  have hGo2 : Gob b0 h' ea := simc_cell (c3.1 b0 (by omega)) hGo1 (fun σ e => by cases e)
  have hG2 := GrpAt_sim hG1 (fun k hk => c3.1 (b0 + 1 + k) (by omega))
  have n0 : dropN d p c 0 = d 0 := dropN_out p8 (by omega)
  obtain ⟨i1, i2⟩ := isN_idx g0 (pc c hc).1
  have kn := w_numberOf (N := N) (e := idxN (d 0) (d (11 + 19 * p + 3 + 2 * c))) (by omega) hGo2 hG2 hGg c2 (by rw [n0]; exact i1)
  rw [n0, ← i2] at kn
  have a1 := w_at_e (N := N) hp hc hD hA1
  have kB1 := w_bA hp hD hA1
  refine C_chg (h1 := h1) (h' := h') (d' := dropN d p c) (v := nI (d (11 + 19 * p + 3 + 2 * c))) hW r2 r3 r4 r5 r6 ?_ c2 c3 hGg (CodeR_sm (smC_drop hp5 p8) hC)
  simp (disch := omega) only [f_X8_discard, nlit, w_o8 hGo, w_o8 hGo2, k1, kB, kB1, w_o6 hA (isR_e hp5), w_o6 hA1 (isR_e hp5), k2, e2, a1, w_g2 hGo, w_g3 hGo, o4, r1, w_o1 hA1 hp5, c1, kn, zth, Option.bind_some, ↓reduceIte]
theorem C_undo0 (hNN : 1400 < N) (hW : WC b0 h (d, K, t, (0, hd, hK, ht), ea, z, B)) : CT b0 (f_X8_undo N b0) h (-nI 1) (d, K, t, (0, hd, hK, ht), ea, z, B) := by
  obtain ⟨⟨⟨hGo, hG, hS0⟩, hBr⟩, ⟨hA, hD, hC⟩, hH, hHG⟩ := id hW
  have hGo : Gob b0 h ea := hGo
  obtain ⟨o, ho, hq, h1, h2, h3, h4⟩ := id hH
  have g2 : gI h (b0 + 84) 4 2 = some (nI 0) := gI_of' h1 rfl
  have o4 : ∀ F : Option (Int32 × zH), onO 4 (b0 + 84) h F = F := fun F => onO_of' h1
  refine C_val hW ?_
  simp (disch := omega) only [f_X8_undo, f_X4_size, w_g3 hGo, o4, g2, nlit, neqT, ↓reduceIte, Option.bind_some]
theorem C_undo {c : Nat} (hNN : 1400 < N) (hW : WC b0 h (d, K, t, (c + 1, hd, hK, ht), ea, z, B)) : CT b0 (f_X8_undo N b0) h (nI c) (hd c, hK c, ht c, (c, hd, hK, ht), ea, z, B) := by
  obtain ⟨⟨⟨hGo, hG, hS0⟩, hBr⟩, ⟨hA, hD, hC⟩, hH, hHG⟩ := id hW
  have hGo : Gob b0 h ea := hGo
  obtain ⟨o, ho, hq, h1, h2, h3, h4⟩ := id hH
  have g2 : gI h (b0 + 84) 4 2 = some (nI (c + 1)) := gI_of' h1 rfl
  have o4 : ∀ F : Option (Int32 × zH), onO 4 (b0 + 84) h F = F := fun F => onO_of' h1
  have o4z : ∀ F : Option zH, onO 4 (b0 + 84) h F = F := fun F => onO_of' h1
  obtain ⟨hgd, hgc⟩ := hHG c (by omega)
  obtain ⟨h', c1, c2, c3, c4, c5, c6⟩ := x_bringBack (N := N) (by omega) hgd hH (AucAt_raw hA)
  have hS1 : hS h ≤ hS h' := Nat.le_of_eq c5.symm
  obtain ⟨w1, w2, w3, w4⟩ := id hW
  refine ⟨h', ?_, ⟨BaseAt_sim w1 hS1 (fun x hx => Or.inl (c4 x (by omega) (by omega))), ⟨c3, hgd, hgc⟩, c2, fun k hk => hHG k (by omega)⟩, ⟨fun x hx => Or.inl (c4 x (by omega) (by omega)), hS1, by rw [c5]; omega, Nat.le_of_eq c6.symm, by rw [c6]; omega⟩⟩
  have hGo' : Gob b0 h' ea := (c4 b0 (by omega) (by omega)).trans hGo
  obtain ⟨o', -, -, k1, -⟩ := c2
  have g3 : gI h' (b0 + 84) 4 2 = some (nI c) := gI_of' k1 rfl
  have o5 : ∀ F : Option (Int32 × zH), onO 4 (b0 + 84) h' F = F := fun F => onO_of' k1
  have e0 : (nI (c + 1) = nI 0) = False := neqF (by omega) (by omega) (by omega)
  simp only [f_X8_undo, f_X4_size, w_g3 hGo, w_g2 hGo, w_g3 hGo', o4, o4z, o5, g2, g3, c1, nlit, e0, ↓reduceIte, Option.bind_some]
end M60

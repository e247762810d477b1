/-! ===== pairs: a card, and the changes ===== -/
section M96
variable {h h' h1 : zH} {b0 K N q z : Nat} {ea : Int32} {d : Nat → Nat} {t : Nat → Nat} {hd : Nat → Nat → Nat} {hK : Nat → Nat} {ht : Nat → Nat → Nat} {B : Nat → Int32}
theorem RAd_rem {rl k : Nat} (r3 : ∀ q, q < b0 + 84 ∨ b0 + 390 ≤ q → hM h1 q = hM h q) (r4 : ∀ q, b0 + 84 < q → (∃ i, i < 8 ∧ b0 + 121 + 38 * i ≤ q ∧ q < b0 + 124 + 38 * i) → hM h1 q = hM h q) (hr : RAd b0 h rl) (hk : k < 3) : hM h1 (rl + k) = hM h (rl + k) := by
  obtain ⟨-, hr⟩ := hr
  rcases hr with ⟨i, i1, i2⟩ | ⟨i, i1, i2⟩ | i2
  · exact r3 _ (by omega)
  · exact r4 _ (by omega) ⟨i, i1, by omega, by omega⟩
  · exact r3 _ (by omega)
theorem RAd_now {rl k : Nat} (hr : RAd b0 h rl) (hk : k < 3) : rl + k < b0 + 46 ∨ b0 + 81 ≤ rl + k := by
  have := RAd_out hr (AAd_now (b0 := b0))
  omega
/-- the class has touched its auction in play only -/
theorem WC_fra {d' : Nat → Nat} (hW : WC b0 h (d, K, t, (q, hd, hK, ht), ea, z, B)) (hf : FrA b0 h h') (hA : AucAt b0 h' (b0 + 46) d' K t) (hD : GoodD d') (hC : CodeR d' K t) : WC b0 h' (d', K, t, (q, hd, hK, ht), ea, z, B) := by
  obtain ⟨h1, h2, h3, h4⟩ := hW
  have hS1 : hS h ≤ hS h' := Nat.le_of_eq hf.2.1.symm
  exact ⟨BaseAt_sim h1 hS1 (fun x hx => hf.1 x (by omega)), ⟨hA, hD, hC⟩, HisAt_sim h3 hS1 (fun x _ _ => hf.1 x (by omega)) (fun rl k hr hk => hf.1 _ (RAd_now hr hk)), h4⟩
theorem Keep_fra (hf : FrA b0 h h') : Keep b0 h h' := ⟨hf.2.2.2, Nat.le_of_eq hf.2.1.symm, by rw [hf.2.1]; omega, Nat.le_of_eq hf.2.2.1.symm, by rw [hf.2.2.1]; omega⟩
/-- the class has remembered -/
theorem WC_rem (hW : WC b0 h (d, K, t, (q, hd, hK, ht), ea, z, B)) (hH1 : HisAt b0 h1 (q - forg q + 1) (remF hd d q) (remF hK K q) (remF ht t q)) (r3 : ∀ q, q < b0 + 84 ∨ b0 + 390 ≤ q → hM h1 q = hM h q) (r4 : ∀ q, b0 + 84 < q → (∃ i, i < 8 ∧ b0 + 121 + 38 * i ≤ q ∧ q < b0 + 124 + 38 * i) → hM h1 q = hM h q) (r5 : hS h1 = hS h) : WC b0 h1 (d, K, t, (q - forg q + 1, remF hd d q, remF hK K q, remF ht t q), ea, z, B) := by
  obtain ⟨w1, ⟨w2, w3, w4⟩, w5, w6⟩ := hW
  have hS1 : hS h ≤ hS h1 := Nat.le_of_eq r5.symm
  refine ⟨BaseAt_sim w1 hS1 (fun x hx => Or.inl (r3 x (by omega))), ⟨AucAt_sim w2 hS1 (fun x _ _ => Or.inl (r3 x (by omega))) (fun rl k hr hk => Or.inl (RAd_rem r3 r4 hr hk)), w3, w4⟩, hH1, fun k hk => ?_⟩
  unfold remF
  by_cases hkq : k = q - forg q
  · rw [if_pos hkq, if_pos hkq, if_pos hkq]
    exact ⟨w3, w4⟩
  · rw [if_neg hkq, if_neg hkq, if_neg hkq]
    have hf : forg q = 0 ∨ forg q = 1 := by
      unfold forg
      split
      · exact Or.inr rfl
      · exact Or.inl rfl
    have hf8 : forg q = 1 → q = 8 := by
      unfold forg
      split
      · exact fun _ => by assumption
      · intro h9; omega
    exact w6 (k + forg q) (by omega)
theorem Keep_rem (r3 : ∀ q, q < b0 + 84 ∨ b0 + 390 ≤ q → hM h1 q = hM h q) (r5 : hS h1 = hS h) (r6 : hN h1 = hN h) : Keep b0 h h1 := ⟨fun x _ _ => r3 x (by omega), Nat.le_of_eq r5.symm, by rw [r5]; omega, Nat.le_of_eq r6.symm, by rw [r6]; omega⟩
theorem Keep_rem_fra (k1 : Keep b0 h h1) (r5 : hS h1 = hS h) (r6 : hN h1 = hN h) (hf : FrA b0 h1 h') : Keep b0 h h' := ⟨fun x a b => (hf.2.2.2 x a b).trans (k1.1 x a b), by rw [hf.2.1, r5]; omega, by rw [hf.2.1, r5]; omega, by rw [hf.2.2.1, r6]; omega, by rw [hf.2.2.1, r6]; omega⟩
variable {F : zH → Option ((Int32 ⊕ Nat) × zH)} {G : zH → Option (Int32 × zH)} {code : Nat → Option Nat}
/-- a change that remembers first -/
theorem P_chg {d' : Nat → Nat} {v : Int32} (hW : WC b0 h (d, K, t, (q, hd, hK, ht), ea, z, B)) (hH1 : HisAt b0 h1 (q - forg q + 1) (remF hd d q) (remF hK K q) (remF ht t q)) (r3 : ∀ q, q < b0 + 84 ∨ b0 + 390 ≤ q → hM h1 q = hM h q) (r4 : ∀ q, b0 + 84 < q → (∃ i, i < 8 ∧ b0 + 121 + 38 * i ≤ q ∧ q < b0 + 124 + 38 * i) → hM h1 q = hM h q) (r5 : hS h1 = hS h) (r6 : hN h1 = hN h) (hF : F h = some (.inl v, h')) (hA : AucAt b0 h' (b0 + 46) d' K t) (hf : FrA b0 h1 h') (hD : GoodD d') (hC : CodeR d' K t) (hm : ∀ (h2 : zH) (S B1 E : Nat → Int32) (H : Nat → Nat → Int32) (J : Nat → Int64) (L U Z W : Nat → Int32), S 11 = nI q → ∃ (J' : Nat → Int64) (H' : Nat → Nat → Int32), G (mset h2 (b0 + 395) S B1 (dI d) E H J L U Z W) = some (v, mset h2 (b0 + 395) (upd (upd S 0 (nI 0)) 11 (nI (q - forg q + 1))) B1 (dI d') E H' J' L U Z W) ∧ RemH H H' (dI d) q) : PairT b0 F G code h (d, K, t, (q, hd, hK, ht), ea, z, B) := by
  refine ⟨_, _, _, hF, WC_fra (WC_rem hW hH1 r3 r4 r5) hf hA hD hC, Keep_rem_fra (Keep_rem r3 r5 r6) r5 r6 hf, fun h2 th hM => ?_⟩
  obtain ⟨h3, m1, m2, m3⟩ := M_rem (hm h2) hM
  exact ⟨v, h3, _, m1, m2, m3, Or.inl ⟨v, rfl, rfl, rfl⟩⟩
theorem PR_card (hNN : 1400 < N) (hW : WC b0 h (d, K, t, (q, hd, hK, ht), ea, z, B)) (x y w : Int32) : PairT b0 (f_X8_card N b0 x y w) (f_X9_card N (b0 + 395) x y w) cCd h (d, K, t, (q, hd, hK, ht), ea, z, B) := by
  obtain ⟨⟨⟨hGo, hG, hS0⟩, hBr⟩, ⟨hA, hD, hC⟩, hH, hHG⟩ := id hW
  obtain ⟨⟨g0, g1, g2, g3, g4, g5, g7⟩, gb, gl, gp, gm⟩ := id hD
  have hGo : Gob b0 h ea := hGo
  have kT := w_T hD hA
  have kA := w_A hD hA
  have e2 : (nI 1 = nI 0) = False := eq_false (by decide)
  have hq8 : q ≤ 8 := by obtain ⟨o, -, h9, -⟩ := hH; exact h9
  rcases inP_cases x (d 1) with ⟨p, hp, rfl⟩ | ⟨hx, -⟩
  · have k1 := w_existing (N := N) hGo hD hA hp
    obtain ⟨p8, pw, pc⟩ := gp p hp
    have hp5 : p < 5 := by omega
    have kB := w_bA hp hD hA
    rcases inP_cases y (d (11 + 19 * p + 1)) with ⟨c, hc, rfl⟩ | ⟨hy, -⟩
    · have k2 := w_holds_e (N := N) hp ⟨c, hc, rfl⟩ hD hA
      rcases inP_cases w 3 with ⟨v, hv, rfl⟩ | ⟨hw, -⟩
      · rcases (show v = 0 ∨ v = 1 ∨ v = 2 by omega) with rfl | rfl | rfl
        · refine P_val hW ?_ (fun h2 S B1 E H J L U Z W => m_card_0 g1 hp p8 hc)
          have a1 := w_at_e (N := N) hp hc hD hA
          obtain ⟨i1, i2⟩ := isN_idx g0 (pc c hc).1
          have kn := w_numberOf (N := N) (by omega) hGo hG hD hA i1
          rw [← i2] at kn
          simp (disch := omega) only [f_X8_card, nlit, neqT, neqF, w_o8 hGo, k1, kB, w_o6 hA (isR_e hp5), k2, a1, kn, e2, zth, Option.bind_some, ↓reduceIte]
        · refine P_val hW ?_ (fun h2 S B1 E H J L U Z W => m_card_1 g1 hp p8 hc)
          have a1 := w_at_b (N := N) hp hc hD hA
          simp (disch := omega) only [f_X8_card, nlit, neqT, neqF, w_o8 hGo, k1, kB, w_o6 hA (isR_e hp5), w_o6 hA (isR_b hp5), k2, a1, e2, zth, Option.bind_some, ↓reduceIte]
        · obtain ⟨h', q1, q2, q3⟩ := w_price (N := N) (by omega) hG hD hC hA hp hc
          have kF : f_X8_card N b0 (nI p) (nI c) (nI 2) h = some (.inl (nI (priT d K t p c)), h') := by
            simp (disch := omega) only [f_X8_card, nlit, neqT, neqF, w_o8 hGo, k1, kB, w_o6 hA (isR_e hp5), w_g2 hGo, w_o0 hA, k2, q1, e2, zth, Option.bind_some, ↓reduceIte]
          refine ⟨_, _, _, kF, WC_fra hW q3 q2 hD hC, Keep_fra q3, fun h2 th hM => ?_⟩
          obtain ⟨h3, m1, m2, m3⟩ := M_readJ (h2 := h2) (G := f_X9_card N (b0 + 395) (nI p) (nI c) (nI 2)) (v := nI (priT d K t p c)) (th' := nI 0) (fun S B1 E H J L U Z W => by
            obtain ⟨J', hJ⟩ := m_priceOf (N := N) (h := h2) (m := b0 + 395) (B := B1) (d := d) (E := E) (J := J) (L := L) (U := U) (Z := Z) (W := W) (p := p) (c := c) (by omega) g0 hp5 (by omega) (pc c hc).2 (pc c hc).1 hC
            exact ⟨J', m_card_2 g1 hp p8 hc hJ⟩) hM
          exact ⟨_, h3, _, m1, m2, m3, Or.inl ⟨_, rfl, rfl, rfl⟩⟩
      · refine P_thr (k := 1) (c := 3) hW ?_ rfl (by omega) (by omega) (fun h2 S B1 E H J L U Z W => m_card_w g1 hp p8 hc hw)
        simp (disch := omega) only [f_X8_card, nlit, w_o8 hGo, k1, kB, w_o6 hA (isR_e hp5), k2, e2, nne hw, zth, Option.bind_some, ↓reduceIte]
    · have k2 := w_nholds_e (N := N) hp hy hD hA
      refine P_thr (k := 3) (c := 2) hW ?_ rfl (by omega) (by omega) (fun h2 S B1 E H J L U Z W => m_card_c g1 hp p8 hy)
      simp (disch := omega) only [f_X8_card, nlit, w_o8 hGo, k1, kB, w_o6 hA (isR_e hp5), k2, zth, Option.bind_some, ↓reduceIte]
  · have k1 := w_nexisting (N := N) hGo hD hA hx
    refine P_thr (k := 2) (c := 1) hW ?_ rfl (by omega) (by omega) (fun h2 S B1 E H J L U Z W => m_card_p (by omega) hx)
    simp only [f_X8_card, w_o8 hGo, k1, zth, Option.bind_some]
end M96

def RuleAt (h : zH) (rl K : Nat) (t : Nat → Nat) : Prop := ∃ (f : Nat → Int32) (σ : Nat → Int64), hM h rl = some (.inr (5, [.ref (rl + 1), .ref (rl + 2)])) ∧ hM h (rl + 1) = some (.inl (0, K, .inl f)) ∧ hM h (rl + 2) = some (.inl (1, 11, .inr (.inl σ))) ∧ ∀ k, k < K → f k = clsC (t k)
theorem RuleAt_congr {h h' : zH} {rl K : Nat} {t : Nat → Nat} (hR : RuleAt h rl K t) (h0 : ∀ k, k < 3 → hM h' (rl + k) = hM h (rl + k)) : RuleAt h' rl K t := by
  obtain ⟨f, σ, h1, h2, h3, h4⟩ := hR
  exact ⟨f, σ, by rw [← h1]; exact h0 0 (by omega), by rw [← h2]; exact h0 1 (by omega), by rw [← h3]; exact h0 2 (by omega), h4⟩
theorem RuleAt_as {h : zH} {a g r rl K : Nat} {t : Nat → Nat} {T R : Nat → Int32} {X : Nat → Nat → Int32} {P Q : Nat → Int32} (hR : RuleAt h rl K t) (hrl : rl + 2 < a ∨ a + 35 ≤ rl) : RuleAt (aset h a g r T R X P Q) rl K t := RuleAt_congr hR (fun k hk => rs_out (by omega))
/-- a long array of a rule may be written -/
def hSt (h : zH) (q : Nat) (σ : Nat → Int64) : zH := hPut h q (.inl (1, 11, .inr (.inl σ)))
theorem GrpAt_st {h : zH} {g q : Nat} {σ : Nat → Int64} (hG : GrpAt h g) (hq : g + 2 < q) : GrpAt (hSt h q σ) g := by
  obtain ⟨h1, h2, h3⟩ := hG
  obtain ⟨f2, h2, h2'⟩ := h2
  obtain ⟨f3, h3, h3'⟩ := h3
  refine ⟨?_, ⟨f2, ?_, h2'⟩, ⟨f3, ?_, h3'⟩⟩ <;> unfold hSt <;> rw [hM_put, if_neg (by omega)] <;> assumption
theorem hSt_as {h : zH} {a g rl q : Nat} {T R : Nat → Int32} {X : Nat → Nat → Int32} {P Q : Nat → Int32} {σ : Nat → Int64} (hq : q < a ∨ a + 35 ≤ q) : hSt (aset h a g rl T R X P Q) q σ = aset (hSt h q σ) a g rl T R X P Q := put_rs hq
section M86
variable {h : zH} {a g rl N : Nat} {T R : Nat → Int32} {X : Nat → Nat → Int32} {P Q : Nat → Int32} {d : Nat → Nat}
theorem varT_le {p c : Nat} (hD : GoodD d) (hp : p < d 1) (hc : c < d (11 + 19 * p + 1)) : ∀ x, x < 10004 → varT d p c x ≤ 1000000 := by
  obtain ⟨⟨g0, g1, g2, g3, g4, g5, g7⟩, gb, gl, gp, gm⟩ := hD
  obtain ⟨p1, p2, p3⟩ := gp p hp
  obtain ⟨p4, p5⟩ := p3 c hc
  have n1 := (isN_idx g0 p4).1
  have n2 := fct_le g0
  obtain ⟨o1, o2, -⟩ := okP_of (show idxN (d 0) (d (11 + 19 * p + 3 + 2 * c)) < 120 by omega)
  unfold monN at gm
  intro x hx
  unfold varT tokV
  split
  · omega
  · split
    · omega
    · split
      · omega
      · split <;> omega
theorem x_priceOf {p c K : Nat} {t : Nat → Nat} (hG : GrpAt h g) (hga : g + 2 < a) (hN : 1000 < N) (hD : GoodD d) (hA : AucR d T R X P Q) (hR : RuleAt h rl K t) (hrl : rl + 2 < a ∨ a + 35 ≤ rl) (hC : CodeR d K t) (hp : p < d 1) (hc : c < d (11 + 19 * p + 1)) : ∃ σ : Nat → Int64, f_X0_priceOf N a (a + (2 + 5 * p)) (nI c) (aset h a g rl T R X P Q) = some (nI (priT d K t p c), aset (hSt h (rl + 2) σ) a g rl T R X P Q) := by
  have hv := varT_le hD hp hc
  obtain ⟨⟨g0, g1, g2, g3, g4, g5, g7⟩, gb, gl, gp, gm⟩ := hD
  obtain ⟨⟨t8, t9, t10, t11, t12, t13, t14⟩, ⟨r27, r29, r31, r33⟩, al, ab, ap⟩ := hA
  obtain ⟨p1, p2, p3, p4, p5⟩ := ap p hp
  obtain ⟨c8, w3, ce⟩ := gp p hp
  obtain ⟨ce1, ce2⟩ := ce c hc
  obtain ⟨e1, e2⟩ := p5 c hc
  obtain ⟨k0, k6, hW, -⟩ := hC
  have hp5 : p < 5 := by omega
  have n1 := (isN_idx g0 ce1).1
  have n2 := fct_le g0
  obtain ⟨f, σ, r1, r2, r3, r4⟩ := RuleAt_as (a := a) (g := g) (r := rl) (T := T) (R := R) (X := X) (P := P) (Q := Q) hR hrl
  have hGa := GrpAt_as (rl := rl) (T := T) (R := R) (X := X) (P := P) (Q := Q) hG hga
  have i3 := isR_e hp5
  have l3 := rlen_e hp5
  have i5 := isR_b hp5
  have l5 := rlen_b hp5
  have s1 := x_at (N := N) (h := h) (a := a) (g := g) (rl := rl) (T := T) (X := X) (P := P) (Q := Q) (r := 3 + 5 * p) (v := c) i3 p3 (by omega) hc
  have s2 := x_at (N := N) (h := h) (a := a) (g := g) (rl := rl) (T := T) (X := X) (P := P) (Q := Q) (r := 5 + 5 * p) (v := c) i5 p4 (by omega) hc
  have s3 := x_size (N := N) (h := h) (a := a) (g := g) (rl := rl) (T := T) (R := R) (X := X) (P := P) (Q := Q) (r := 31) isR_31
  have s4 := x_period (N := N) hGa (by omega) (a := idxN (d 0) (d (11 + 19 * p + 3 + 2 * c))) (by omega)
  have o := fun (F : Option (Int32 × zH)) => onO_of' (F := F) hGa.1
  have o5 := fun (F : Option (Int32 × zH)) => onO_of' (F := F) r1
  have s5 := x_price (N := N) (bs := d (11 + 19 * p + 3 + 2 * c + 1)) (od := ordN (idxN (d 0) (d (11 + 19 * p + 3 + 2 * c)))) (bi := d 5) (po := d 6) (by omega) hv hW k0 r1 r2 r3 r4 (by omega) (by omega) (by omega)
  refine ⟨evJ (tokV (d (11 + 19 * p + 3 + 2 * c + 1)) (ordN (idxN (d 0) (d (11 + 19 * p + 3 + 2 * c)))) (d 5) (d 6)) t σ K, ?_⟩
  rw [← hSt_as (by omega)]
  refine Eq.trans ?_ s5
  simp (disch := first | assumption | exact isR_27 | exact isR_29 | exact isR_31 | exact isR_33 | omega) only [f_X0_priceOf, s1, s2, s3, s4, e1, e2, r31, t12, o, o5, s5, nlit, nltT, nltF, nleT, nleF, neqT, neqF, nadd, nmul, nsub, ↓reduceIte, Option.bind_some, onO_a, onO_b, onO_r, gI_a, gA_a, pF_a, pF_rl, gI_b, gA_b, pF_bP, pF_bQ, ldQ_a, upS_eq, upS_ne, updH_eq, updH_ne, Nat.add_zero, Nat.zero_add, zjn, znl]
end M86

theorem gI_out {h : zH} {a len q c k : Nat} {cl : Nat → Option zE} (hq : q < a ∨ a + len ≤ q) : gI (rs h a len cl) q c k = gI h q c k := by
  unfold gI gF
  rw [rs_out hq]
theorem gA_out {h : zH} {a len q c k : Nat} {cl : Nat → Option zE} (hq : q < a ∨ a + len ≤ q) : gA (rs h a len cl) q c k = gA h q c k := by
  unfold gA gF
  rw [rs_out hq]
theorem aLen_out {h : zH} {a len q : Nat} {cl : Nat → Option zE} (hq : q < a ∨ a + len ≤ q) : aLen (rs h a len cl) q = aLen h q := by
  unfold aLen
  rw [rs_out hq]
theorem ldI_out {h : zH} {a len q : Nat} {i : Int32} {cl : Nat → Option zE} (hq : q < a ∨ a + len ≤ q) : ldI (rs h a len cl) q i = ldI h q i := by
  unfold ldI
  rw [rs_out hq]
theorem ldQ_out {h : zH} {a len q : Nat} {i : Int32} {cl : Nat → Option zE} (hq : q < a ∨ a + len ≤ q) : ldQ (rs h a len cl) q i = ldQ h q i := by
  unfold ldQ
  rw [rs_out hq]
theorem onO_out {β : Type} {F : Option β} {h : zH} {a len q c : Nat} {cl : Nat → Option zE} (hq : q < a ∨ a + len ≤ q) : onO c q (rs h a len cl) F = onO c q h F := by
  unfold onO
  rw [rs_out hq]
def szI (R : Nat → Int32) (r : Nat) : Nat := (R r).toNatClampNeg
theorem szI_ok {R : Nat → Int32} (hR : RowOK R) {r : Nat} (hr : isR r = true) : szI R r ≤ rlen r ∧ R r = nI (szI R r) := by
  obtain ⟨s, h1, h2⟩ := hR r hr
  have := rlen_le r
  unfold szI
  rw [h2, nI_clamp (by omega)]
  exact ⟨h1, rfl⟩
theorem isR_cases {r : Nat} (hr : isR r = true) : (∃ p, p < 5 ∧ (r = 3 + 5 * p ∨ r = 5 + 5 * p)) ∨ r = 27 ∨ r = 29 ∨ r = 31 ∨ r = 33 := by
  have h1 : r = 3 ∨ r = 5 ∨ r = 8 ∨ r = 10 ∨ r = 13 ∨ r = 15 ∨ r = 18 ∨ r = 20 ∨ r = 23 ∨ r = 25 ∨ r = 27 ∨ r = 29 ∨ r = 31 ∨ r = 33 := by simpa [isR] using hr
  rcases h1 with rfl | rfl | rfl | rfl | rfl | rfl | rfl | rfl | rfl | rfl | rfl | rfl | rfl | rfl
  · exact Or.inl ⟨0, by omega, Or.inl rfl⟩
  · exact Or.inl ⟨0, by omega, Or.inr rfl⟩
  · exact Or.inl ⟨1, by omega, Or.inl rfl⟩
  · exact Or.inl ⟨1, by omega, Or.inr rfl⟩
  · exact Or.inl ⟨2, by omega, Or.inl rfl⟩
  · exact Or.inl ⟨2, by omega, Or.inr rfl⟩
  · exact Or.inl ⟨3, by omega, Or.inl rfl⟩
  · exact Or.inl ⟨3, by omega, Or.inr rfl⟩
  · exact Or.inl ⟨4, by omega, Or.inl rfl⟩
  · exact Or.inl ⟨4, by omega, Or.inr rfl⟩
  · exact Or.inr (Or.inl rfl)
  · exact Or.inr (Or.inr (Or.inl rfl))
  · exact Or.inr (Or.inr (Or.inr (Or.inl rfl)))
  · exact Or.inr (Or.inr (Or.inr (Or.inr rfl)))
/-- two auctions' cells are the same, as far as they are in use -/
def AEq (T R : Nat → Int32) (X : Nat → Nat → Int32) (P Q T' R' : Nat → Int32) (X' : Nat → Nat → Int32) (P' Q' : Nat → Int32) : Prop :=
  (T 8 = T' 8 ∧ T 9 = T' 9 ∧ T 10 = T' 10 ∧ T 11 = T' 11 ∧ T 12 = T' 12 ∧ T 13 = T' 13 ∧ T 14 = T' 14) ∧ (∀ r, isR r = true → R r = R' r ∧ ∀ j, j < szI R' r → X r j = X' r j) ∧ ∀ p, p < 5 → P p = P' p ∧ Q p = Q' p
theorem AEq_RowOK {T R : Nat → Int32} {X : Nat → Nat → Int32} {P Q T' R' : Nat → Int32} {X' : Nat → Nat → Int32} {P' Q' : Nat → Int32} (hE : AEq T R X P Q T' R' X' P' Q') (hR : RowOK R') : RowOK R := by
  intro r hr
  rw [(hE.2.1 r hr).1]
  exact hR r hr
theorem AEq_AucR {d : Nat → Nat} {T R : Nat → Int32} {X : Nat → Nat → Int32} {P Q T' R' : Nat → Int32} {X' : Nat → Nat → Int32} {P' Q' : Nat → Int32} (hE : AEq T R X P Q T' R' X' P' Q') (hD : GoodD d) (hA : AucR d T' R' X' P' Q') : AucR d T R X P Q := by
  obtain ⟨⟨g0, g1, g2, g3, g4, g5, g7⟩, gb, gl, gp, gm⟩ := hD
  obtain ⟨⟨t8, t9, t10, t11, t12, t13, t14⟩, ⟨r27, r29, r31, r33⟩, al, ab, ap⟩ := hA
  obtain ⟨⟨e8, e9, e10, e11, e12, e13, e14⟩, er, ep⟩ := hE
  have z : ∀ {r s : Nat}, R' r = nI s → s ≤ 20 → szI R' r = s := fun {r s} h1 h2 => by unfold szI; rw [h1, nI_clamp (by omega)]
  refine ⟨⟨e8.trans t8, e9.trans t9, e10.trans t10, e11.trans t11, e12.trans t12, e13.trans t13, e14.trans t14⟩, ⟨(er 27 rfl).1.trans r27, (er 29 rfl).1.trans r29, (er 31 rfl).1.trans r31, (er 33 rfl).1.trans r33⟩, ?_, ?_, ?_⟩
  · intro l hl
    rw [(er 27 rfl).2 l (by rw [z r27 (by omega)]; exact hl)]
    exact al l hl
  · intro b hb
    rw [(er 29 rfl).2 b (by rw [z r29 g5]; exact hb), (er 31 rfl).2 b (by rw [z r31 g5]; exact hb), (er 33 rfl).2 b (by rw [z r33 g5]; exact hb)]
    exact ab b hb
  · intro p hp
    obtain ⟨p1, p2, p3, p4, p5⟩ := ap p hp
    have hp5 : p < 5 := by omega
    have c8 := (gp p hp).1
    refine ⟨(ep p hp5).1.trans p1, (ep p hp5).2.trans p2, (er _ (isR_e hp5)).1.trans p3, (er _ (isR_b hp5)).1.trans p4, fun c hc => ?_⟩
    rw [(er _ (isR_e hp5)).2 c (by rw [z p3 (by omega)]; exact hc), (er _ (isR_b hp5)).2 c (by rw [z p4 (by omega)]; exact hc)]
    exact p5 c hc
section M87
variable {h : zH} {a b g g' rl rl' N : Nat} {T R : Nat → Int32} {X : Nat → Nat → Int32} {P Q : Nat → Int32} {T' R' : Nat → Int32} {X' : Nat → Nat → Int32} {P' Q' : Nat → Int32}
theorem x_copyRow {r s : Nat} (hs : aset h b g' rl' T' R' X' P' Q' = h) (hab : a + 35 ≤ b ∨ b + 35 ≤ a) (hr : isR r = true) (hR : R' r = nI s) (hsz : s ≤ rlen r) : f_X6_copyFrom N (a + r) (b + r) (aset h a g rl T R X P Q) = some (aset h a g rl T (upd R r (nI s)) (updH X r (va_cpy (X' r) (X r) 0 0 s)) P Q) := by
  obtain ⟨b1, b2, -⟩ := isR_lt hr
  have hl := rlen_le r
  have g1 : gI (aset h a g rl T R X P Q) (b + r) 6 1 = some (nI s) := by
    have := gI_r (h := h) (a := b) (g := g') (rl := rl') (T := T') (R := R') (X := X') (P := P') (Q := Q') hr
    rw [hs, hR] at this
    rw [← this]
    exact gI_out (by omega)
  have g2 : gA (aset h a g rl T R X P Q) (b + r) 6 0 = some (b + (r + 1)) := by
    have := gA_r (h := h) (a := b) (g := g') (rl := rl') (T := T') (R := R') (X := X') (P := P') (Q := Q') hr
    rw [hs] at this
    rw [← this]
    exact gA_out (by omega)
  have g3 : hM (aset h a g rl T R X P Q) (b + (r + 1)) = some (.inl (0, rlen r, .inl (X' r))) := by
    have := as_c (h := h) (a := b) (g := g') (rl := rl') (T := T') (R := R') (X := X') (P := P') (Q := Q') hr
    rw [hs] at this
    rw [← this]
    exact rs_out (by omega)
  have g4 := aLen_of' g3 (by omega)
  have m1 := x_min (N := N) (x := rlen r) (y := rlen r) (k := (aset h a g rl T R X P Q)) (by omega) (by omega)
  rw [Nat.min_self] at m1
  have m2 := x_min (N := N) (x := s) (y := rlen r) (k := (aset h a g rl T R X P Q)) (by omega) (by omega)
  rw [Nat.min_eq_left hsz] at m2
  have m3 := x_max (N := N) (x := 0) (y := s) (k := (aset h a g rl T R X P Q)) (by omega) (by omega)
  rw [Nat.zero_max] at m3
  have c1 := cpI_of' g3 (as_c (h := h) (a := a) (g := g) (rl := rl) (T := T) (R := R) (X := X) (P := P) (Q := Q) hr) hsz hsz (by omega)
  rw [aput_c hr] at c1
  simp (disch := first | assumption | exact isR_27 | exact isR_29 | exact isR_31 | exact isR_33 | omega) only [f_X6_copyFrom, g1, g2, g4, m1, m2, m3, c1, nlit, Option.bind_some, gA_r, aLen_r, pF_r]
theorem x_copyBidder {p : Nat} (hs : aset h b g' rl' T' R' X' P' Q' = h) (hab : a + 35 ≤ b ∨ b + 35 ≤ a) (hR : RowOK R') (hp : p < 5) : f_X1_copyFrom N (a + (2 + 5 * p)) (b + (2 + 5 * p)) (aset h a g rl T R X P Q) = some (aset h a g rl T (upd (upd R (3 + 5 * p) (nI (szI R' (3 + 5 * p)))) (5 + 5 * p) (nI (szI R' (5 + 5 * p)))) (updH (updH X (3 + 5 * p) (va_cpy (X' (3 + 5 * p)) (X (3 + 5 * p)) 0 0 (szI R' (3 + 5 * p)))) (5 + 5 * p) (va_cpy (X' (5 + 5 * p)) (X (5 + 5 * p)) 0 0 (szI R' (5 + 5 * p)))) (upd P p (P' p)) (upd Q p (Q' p))) := by
  have ob := fun (R X P Q) => gA_out (h := h) (a := a) (len := 35) (c := 1) (cl := acl a g rl T R X P Q) (q := b + (2 + 5 * p)) (k := 0) (by omega)
  have ob1 := fun (R X P Q) => gA_out (h := h) (a := a) (len := 35) (c := 1) (cl := acl a g rl T R X P Q) (q := b + (2 + 5 * p)) (k := 1) (by omega)
  have oi := fun (R X P Q) => gI_out (h := h) (a := a) (len := 35) (c := 1) (cl := acl a g rl T R X P Q) (q := b + (2 + 5 * p)) (k := 2) (by omega)
  have oi1 := fun (R X P Q) => gI_out (h := h) (a := a) (len := 35) (c := 1) (cl := acl a g rl T R X P Q) (q := b + (2 + 5 * p)) (k := 3) (by omega)
  have sb := gA_b (h := h) (a := b) (g := g') (rl := rl') (T := T') (R := R') (X := X') (P := P') (Q := Q') hp
  have si := gI_b (h := h) (a := b) (g := g') (rl := rl') (T := T') (R := R') (X := X') (P := P') (Q := Q') hp
  rw [hs] at sb si
  rw [sb.1] at ob
  rw [sb.2] at ob1
  rw [si.1] at oi
  rw [si.2] at oi1
  have e : ∀ R X P Q, rs h a 35 (acl a g rl T R X P Q) = aset h a g rl T R X P Q := fun _ _ _ _ => rfl
  simp only [e] at ob ob1 oi oi1
  obtain ⟨z1, z2⟩ := szI_ok hR (isR_e hp)
  obtain ⟨z3, z4⟩ := szI_ok hR (isR_b hp)
  have r1 := x_copyRow (N := N) (a := a) (g := g) (rl := rl) (T := T) (R := R) (X := X) (P := upd P p (P' p)) (Q := upd Q p (Q' p)) hs hab (isR_e hp) z2 z1
  have r2 := x_copyRow (N := N) (a := a) (g := g) (rl := rl) (T := T) (R := upd R (3 + 5 * p) (nI (szI R' (3 + 5 * p)))) (X := updH X (3 + 5 * p) (va_cpy (X' (3 + 5 * p)) (X (3 + 5 * p)) 0 0 (szI R' (3 + 5 * p)))) (P := upd P p (P' p)) (Q := upd Q p (Q' p)) hs hab (isR_b hp) z4 z3
  rw [updH_ne (show 5 + 5 * p ≠ 3 + 5 * p by omega)] at r2
  have i3 := isR_e hp
  have i5 := isR_b hp
  simp (disch := first | assumption | exact isR_27 | exact isR_29 | exact isR_31 | exact isR_33 | omega) only [f_X1_copyFrom, ob, ob1, oi, oi1, r1, r2, nlit, Option.bind_some, onO_r, pF_bP, pF_bQ, gA_b]
end M87

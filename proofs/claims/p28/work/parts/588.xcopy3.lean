def BEq (k : Nat) (R : Nat → Int32) (X : Nat → Nat → Int32) (P Q R' : Nat → Int32) (X' : Nat → Nat → Int32) (P' Q' : Nat → Int32) : Prop := ∀ p, p < k → (R (3 + 5 * p) = R' (3 + 5 * p) ∧ ∀ j, j < szI R' (3 + 5 * p) → X (3 + 5 * p) j = X' (3 + 5 * p) j) ∧ (R (5 + 5 * p) = R' (5 + 5 * p) ∧ ∀ j, j < szI R' (5 + 5 * p) → X (5 + 5 * p) j = X' (5 + 5 * p) j) ∧ P p = P' p ∧ Q p = Q' p
section M88
variable {h : zH} {a b g g' rl rl' N : Nat} {T R : Nat → Int32} {X : Nat → Nat → Int32} {P Q : Nat → Int32} {T' R' : Nat → Int32} {X' : Nat → Nat → Int32} {P' Q' : Nat → Int32}
theorem x_copyBidders {k1 : zH → Option zH} (hs : aset h b g' rl' T' R' X' P' Q' = h) (hab : a + 35 ≤ b ∨ b + 35 ≤ a) (hR : RowOK R') : ∀ (r k fuel : Nat) (R : Nat → Int32) (X : Nat → Nat → Int32) (P Q : Nat → Int32), k + r = 5 → r < fuel → BEq k R X P Q R' X' P' Q' → ∃ (R2 : Nat → Int32) (X2 : Nat → Nat → Int32) (P2 Q2 : Nat → Int32), f_X0_copyFrom_l18 N a b k1 fuel (nI k) (aset h a g rl T R X P Q) = k1 (aset h a g rl T R2 X2 P2 Q2) ∧ BEq 5 R2 X2 P2 Q2 R' X' P' Q' := by
  have s2 := gA_a (h := h) (a := b) (g := g') (rl := rl') (T := T') (R := R') (X := X') (P := P') (Q := Q')
  rw [hs] at s2
  have sq := fun {k : Nat} (hk : k < 5) => ldQ_a (h := h) (a := b) (g := g') (rl := rl') (T := T') (R := R') (X := X') (P := P') (Q := Q') hk
  rw [hs] at sq
  have q1 : ∀ (R : Nat → Int32) (X : Nat → Nat → Int32) (P Q : Nat → Int32), gA (aset h a g rl T R X P Q) b 0 1 = some (b + 1) := fun R X P Q => (gA_out (by omega)).trans s2.2.1
  have q2 : ∀ (R : Nat → Int32) (X : Nat → Nat → Int32) (P Q : Nat → Int32) (k : Nat), k < 5 → ldQ (aset h a g rl T R X P Q) (b + 1) (nI k) = some (b + (2 + 5 * k)) := fun R X P Q k hk => (ldQ_out (by omega)).trans (sq hk)
  intro r
  induction r with
  | zero =>
    intro k fuel R X P Q hk hf hE
    obtain ⟨fuel, rfl⟩ : ∃ m, fuel = m + 1 := ⟨fuel - 1, by omega⟩
    have h5 : k = 5 := by omega
    subst h5
    refine ⟨R, X, P, Q, ?_, hE⟩
    simp (disch := omega) only [f_X0_copyFrom_l18, nlit, nleT, ↓reduceIte]
  | succ r ih =>
    intro k fuel R X P Q hk hf hE
    obtain ⟨fuel, rfl⟩ : ∃ m, fuel = m + 1 := ⟨fuel - 1, by omega⟩
    have h5 : k < 5 := by omega
    have c1 := x_copyBidder (N := N) (a := a) (g := g) (rl := rl) (T := T) (R := R) (X := X) (P := P) (Q := Q) hs hab hR h5
    obtain ⟨R2, X2, P2, Q2, i1, i2⟩ := ih (k + 1) fuel (upd (upd R (3 + 5 * k) (nI (szI R' (3 + 5 * k)))) (5 + 5 * k) (nI (szI R' (5 + 5 * k)))) (updH (updH X (3 + 5 * k) (va_cpy (X' (3 + 5 * k)) (X (3 + 5 * k)) 0 0 (szI R' (3 + 5 * k)))) (5 + 5 * k) (va_cpy (X' (5 + 5 * k)) (X (5 + 5 * k)) 0 0 (szI R' (5 + 5 * k)))) (upd P k (P' k)) (upd Q k (Q' k)) (by omega) (by omega) (by
      intro p hp
      by_cases hpk : p = k
      · subst hpk
        refine ⟨⟨?_, fun j hj => ?_⟩, ⟨?_, fun j hj => ?_⟩, upS_eq _ _ _, upS_eq _ _ _⟩
        · rw [upS_ne (by omega), upS_eq]
          exact (szI_ok hR (isR_e h5)).2.symm
        · rw [updH_ne (by omega), updH_eq, va_cpy0, if_pos hj]
        · rw [upS_eq]
          exact (szI_ok hR (isR_b h5)).2.symm
        · rw [updH_eq, va_cpy0, if_pos hj]
      · obtain ⟨⟨e1, e2⟩, ⟨e3, e4⟩, e5, e6⟩ := hE p (by omega)
        refine ⟨⟨?_, fun j hj => ?_⟩, ⟨?_, fun j hj => ?_⟩, ?_, ?_⟩
        · rw [upS_ne (by omega), upS_ne (by omega)]; exact e1
        · rw [updH_ne (by omega), updH_ne (by omega)]; exact e2 j hj
        · rw [upS_ne (by omega), upS_ne (by omega)]; exact e3
        · rw [updH_ne (by omega), updH_ne (by omega)]; exact e4 j hj
        · rw [upS_ne hpk]; exact e5
        · rw [upS_ne hpk]; exact e6)
    refine ⟨R2, X2, P2, Q2, ?_, i2⟩
    rw [← i1]
    simp (disch := first | assumption | exact isR_27 | exact isR_29 | exact isR_31 | exact isR_33 | omega) only [f_X0_copyFrom_l18, q1, q2, c1, nlit, nleF, nadd, ↓reduceIte, Option.bind_some, onO_b, gA_a, ldQ_a]
theorem x_copyFrom (hN : 10 < N) (hs : aset h b g' rl' T' R' X' P' Q' = h) (hab : a + 35 ≤ b ∨ b + 35 ≤ a) (hR : RowOK R') : ∃ (T2 R2 : Nat → Int32) (X2 : Nat → Nat → Int32) (P2 Q2 : Nat → Int32), f_X0_copyFrom N a b (aset h a g rl T R X P Q) = some (aset h a g rl' T2 R2 X2 P2 Q2) ∧ AEq T2 R2 X2 P2 Q2 T' R' X' P' Q' := by
  have s1 := gI_a (h := h) (a := b) (g := g') (rl := rl') (T := T') (R := R') (X := X') (P := P') (Q := Q')
  have s2 := gA_a (h := h) (a := b) (g := g') (rl := rl') (T := T') (R := R') (X := X') (P := P') (Q := Q')
  rw [hs] at s1 s2
  have o8 : ∀ (rl : Nat) (T R : Nat → Int32) (X : Nat → Nat → Int32) (P Q : Nat → Int32), gI (aset h a g rl T R X P Q) b 0 8 = some (T' 8) := fun rl T R X P Q => (gI_out (by omega)).trans (by rw [← s1.1])
  have o9 : ∀ (rl : Nat) (T R : Nat → Int32) (X : Nat → Nat → Int32) (P Q : Nat → Int32), gI (aset h a g rl T R X P Q) b 0 9 = some (T' 9) := fun rl T R X P Q => (gI_out (by omega)).trans (by rw [← s1.2.1])
  have o10 : ∀ (rl : Nat) (T R : Nat → Int32) (X : Nat → Nat → Int32) (P Q : Nat → Int32), gI (aset h a g rl T R X P Q) b 0 10 = some (T' 10) := fun rl T R X P Q => (gI_out (by omega)).trans (by rw [← s1.2.2.1])
  have o11 : ∀ (rl : Nat) (T R : Nat → Int32) (X : Nat → Nat → Int32) (P Q : Nat → Int32), gI (aset h a g rl T R X P Q) b 0 11 = some (T' 11) := fun rl T R X P Q => (gI_out (by omega)).trans (by rw [← s1.2.2.2.1])
  have o12 : ∀ (rl : Nat) (T R : Nat → Int32) (X : Nat → Nat → Int32) (P Q : Nat → Int32), gI (aset h a g rl T R X P Q) b 0 12 = some (T' 12) := fun rl T R X P Q => (gI_out (by omega)).trans (by rw [← s1.2.2.2.2.1])
  have o13 : ∀ (rl : Nat) (T R : Nat → Int32) (X : Nat → Nat → Int32) (P Q : Nat → Int32), gI (aset h a g rl T R X P Q) b 0 13 = some (T' 13) := fun rl T R X P Q => (gI_out (by omega)).trans (by rw [← s1.2.2.2.2.2.1])
  have o14 : ∀ (rl : Nat) (T R : Nat → Int32) (X : Nat → Nat → Int32) (P Q : Nat → Int32), gI (aset h a g rl T R X P Q) b 0 14 = some (T' 14) := fun rl T R X P Q => (gI_out (by omega)).trans (by rw [← s1.2.2.2.2.2.2])
  have q1 : ∀ (rl : Nat) (T R : Nat → Int32) (X : Nat → Nat → Int32) (P Q : Nat → Int32), gA (aset h a g rl T R X P Q) b 0 1 = some (b + 1) := fun rl T R X P Q => (gA_out (by omega)).trans (by rw [← s2.2.1])
  have q2 : ∀ (rl : Nat) (T R : Nat → Int32) (X : Nat → Nat → Int32) (P Q : Nat → Int32), gA (aset h a g rl T R X P Q) b 0 2 = some (b + 27) := fun rl T R X P Q => (gA_out (by omega)).trans (by rw [← s2.2.2.1])
  have q3 : ∀ (rl : Nat) (T R : Nat → Int32) (X : Nat → Nat → Int32) (P Q : Nat → Int32), gA (aset h a g rl T R X P Q) b 0 3 = some (b + 29) := fun rl T R X P Q => (gA_out (by omega)).trans (by rw [← s2.2.2.2.1])
  have q4 : ∀ (rl : Nat) (T R : Nat → Int32) (X : Nat → Nat → Int32) (P Q : Nat → Int32), gA (aset h a g rl T R X P Q) b 0 4 = some (b + 31) := fun rl T R X P Q => (gA_out (by omega)).trans (by rw [← s2.2.2.2.2.1])
  have q5 : ∀ (rl : Nat) (T R : Nat → Int32) (X : Nat → Nat → Int32) (P Q : Nat → Int32), gA (aset h a g rl T R X P Q) b 0 5 = some (b + 33) := fun rl T R X P Q => (gA_out (by omega)).trans (by rw [← s2.2.2.2.2.2.1])
  have q7 : ∀ (rl : Nat) (T R : Nat → Int32) (X : Nat → Nat → Int32) (P Q : Nat → Int32), gA (aset h a g rl T R X P Q) b 0 7 = some (rl') := fun rl T R X P Q => (gA_out (by omega)).trans (by rw [← s2.2.2.2.2.2.2.2])
  obtain ⟨z1, z2⟩ := szI_ok hR isR_27
  obtain ⟨z3, z4⟩ := szI_ok hR isR_29
  obtain ⟨z5, z6⟩ := szI_ok hR isR_31
  obtain ⟨z7, z8⟩ := szI_ok hR isR_33
  have k1 := fun (rl : Nat) (T R : Nat → Int32) (X : Nat → Nat → Int32) (P Q : Nat → Int32) => x_copyRow (N := N) (a := a) (g := g) (rl := rl) (T := T) (R := R) (X := X) (P := P) (Q := Q) hs hab isR_27 z2 z1
  have k2 := fun (rl : Nat) (T R : Nat → Int32) (X : Nat → Nat → Int32) (P Q : Nat → Int32) => x_copyRow (N := N) (a := a) (g := g) (rl := rl) (T := T) (R := R) (X := X) (P := P) (Q := Q) hs hab isR_29 z4 z3
  have k3 := fun (rl : Nat) (T R : Nat → Int32) (X : Nat → Nat → Int32) (P Q : Nat → Int32) => x_copyRow (N := N) (a := a) (g := g) (rl := rl) (T := T) (R := R) (X := X) (P := P) (Q := Q) hs hab isR_31 z6 z5
  have k4 := fun (rl : Nat) (T R : Nat → Int32) (X : Nat → Nat → Int32) (P Q : Nat → Int32) => x_copyRow (N := N) (a := a) (g := g) (rl := rl) (T := T) (R := R) (X := X) (P := P) (Q := Q) hs hab isR_33 z8 z7
  unfold f_X0_copyFrom
  simp only [o8, o9, Option.bind_some, pF_a]
  obtain ⟨R2, X2, P2, Q2, c1, c2⟩ := x_copyBidders (N := N) (a := a) (g := g) (rl := rl) (T := upd (upd T 8 (T' 8)) 9 (T' 9)) (k1 := (fun (h10 : zH) => (gA h10 a 0 2).bind fun x11 => (gA h10 b 0 2).bind fun x12 => (onO 6 x11 h10 (f_X6_copyFrom N x11 x12 h10)).bind fun y13 => (gA y13 a 0 3).bind fun x14 => (gA y13 b 0 3).bind fun x15 => (onO 6 x14 y13 (f_X6_copyFrom N x14 x15 y13)).bind fun y16 => (gA y16 a 0 4).bind fun x17 => (gA y16 b 0 4).bind fun x18 => (onO 6 x17 y16 (f_X6_copyFrom N x17 x18 y16)).bind fun y19 => (gA y19 a 0 5).bind fun x20 => (gA y19 b 0 5).bind fun x21 => (onO 6 x20 y19 (f_X6_copyFrom N x20 x21 y19)).bind fun y22 => (gA y22 b 0 7).bind fun x23 => (pF y22 a 0 7 (.ref x23)).bind fun h24 => (gI h24 b 0 10).bind fun x25 => (pF h24 a 0 10 (.int x25)).bind fun h26 => (gI h26 b 0 11).bind fun x27 => (pF h26 a 0 11 (.int x27)).bind fun h28 => (gI h28 b 0 12).bind fun x29 => (pF h28 a 0 12 (.int x29)).bind fun h30 => (gI h30 b 0 13).bind fun x31 => (pF h30 a 0 13 (.int x31)).bind fun h32 => (gI h32 b 0 14).bind fun x33 => (pF h32 a 0 14 (.int x33)).bind fun h34 => some h34)) hs hab hR 5 0 N R X P Q (by omega) (by omega) (fun p hp => absurd hp (Nat.not_lt_zero p))
  refine ⟨?t2, ?r2, ?x2, ?p2, ?q2, Eq.trans c1 ?he, ?hq⟩
  case he =>
   simp (disch := first | assumption | exact isR_27 | exact isR_29 | exact isR_31 | exact isR_33 | omega) only [q2, q3, q4, q5, q7, o10, o11, o12, o13, o14, k1, k2, k3, k4, nlit, Option.bind_some, onO_r, gA_a, pF_a, pF_rl]
   rfl
  refine ⟨⟨?_, ?_, ?_, ?_, ?_, ?_, ?_⟩, fun r hr => ?_, fun p hp => ⟨(c2 p hp).2.2.1, (c2 p hp).2.2.2⟩⟩
  iterate 7 (simp (disch := omega) only [upS_eq, upS_ne])
  rcases isR_cases hr with ⟨p, hp, hrp⟩ | hr4
  · obtain ⟨⟨e1, e2⟩, ⟨e3, e4⟩, e5, e6⟩ := c2 p hp
    rcases hrp with rfl | rfl
    · simp (disch := omega) only [upS_eq, upS_ne, updH_ne]
      exact ⟨e1, e2⟩
    · simp (disch := omega) only [upS_eq, upS_ne, updH_ne]
      exact ⟨e3, e4⟩
  · rcases hr4 with rfl | rfl | rfl | rfl
    · refine ⟨?_, fun j hj => ?_⟩
      · simp (disch := omega) only [upS_eq, upS_ne]
        exact z2.symm
      · simp (disch := omega) only [updH_eq, updH_ne]
        rw [va_cpy0, if_pos hj]
    · refine ⟨?_, fun j hj => ?_⟩
      · simp (disch := omega) only [upS_eq, upS_ne]
        exact z4.symm
      · simp (disch := omega) only [updH_eq, updH_ne]
        rw [va_cpy0, if_pos hj]
    · refine ⟨?_, fun j hj => ?_⟩
      · simp (disch := omega) only [upS_eq, upS_ne]
        exact z6.symm
      · simp (disch := omega) only [updH_eq, updH_ne]
        rw [va_cpy0, if_pos hj]
    · refine ⟨?_, fun j hj => ?_⟩
      · simp (disch := omega) only [upS_eq, upS_ne]
        exact z8.symm
      · simp (disch := omega) only [updH_eq, updH_ne]
        rw [va_cpy0, if_pos hj]
end M88

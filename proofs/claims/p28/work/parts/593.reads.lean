def Gob (b0 : Nat) (h : zH) (ea : Int32) : Prop := hM h b0 = some (.inr (8, [.ref (b0 + 1), .ref (b0 + 4), .ref (b0 + 46), .ref (b0 + 84), .ref (b0 + 390), .int ea]))
section M93
variable {h h' : zH} {b0 K N : Nat} {ea : Int32} {d : Nat → Nat} {t : Nat → Nat}
theorem w_g0 (hO : Gob b0 h ea) : gA h b0 8 0 = some (b0 + 1) := gA_of' hO rfl
theorem w_g1 (hO : Gob b0 h ea) : gA h b0 8 1 = some (b0 + 4) := gA_of' hO rfl
theorem w_g2 (hO : Gob b0 h ea) : gA h b0 8 2 = some (b0 + 46) := gA_of' hO rfl
theorem w_g3 (hO : Gob b0 h ea) : gA h b0 8 3 = some (b0 + 84) := gA_of' hO rfl
theorem w_g4 (hO : Gob b0 h ea) : gA h b0 8 4 = some (b0 + 390) := gA_of' hO rfl
theorem w_g5 (hO : Gob b0 h ea) : gI h b0 8 5 = some ea := gI_of' hO rfl
theorem w_o8 {β : Type} {F : Option β} (hO : Gob b0 h ea) : onO 8 b0 h F = F := onO_of' hO
theorem w_o2 {β : Type} {F : Option β} (hG : GrpAt h (b0 + 1)) : onO 2 (b0 + 1) h F = F := onO_of' hG.1
theorem w_o0 {β : Type} {F : Option β} {a : Nat} (hA : AucAt b0 h a d K t) : onO 0 a h F = F := onO_any (AucAt_raw hA)
theorem w_o1 {β : Type} {F : Option β} {p : Nat} (hA : AucAt b0 h (b0 + 46) d K t) (hp : p < 5) : onO 1 (b0 + 46 + (2 + 5 * p)) h F = F := by
  obtain ⟨rl, T, R, X, P, Q, ea, -⟩ := hA
  have k := onO_b (F := F) (h := h) (a := b0 + 46) (g := b0 + 1) (rl := rl) (T := T) (R := R) (X := X) (P := P) (Q := Q) hp
  rw [ea] at k
  exact k
theorem w_o6 {β : Type} {F : Option β} {r : Nat} (hA : AucAt b0 h (b0 + 46) d K t) (hr : isR r = true) : onO 6 (b0 + 46 + r) h F = F := by
  obtain ⟨rl, T, R, X, P, Q, ea, -⟩ := hA
  have k := onO_r (F := F) (h := h) (a := b0 + 46) (g := b0 + 1) (rl := rl) (T := T) (R := R) (X := X) (P := P) (Q := Q) hr
  rw [ea] at k
  exact k
theorem w_T (hD : GoodD d) (hA : AucAt b0 h (b0 + 46) d K t) : gI h (b0 + 46) 0 8 = some (nI (d 0)) ∧ gI h (b0 + 46) 0 9 = some (nI (d 1)) ∧ gI h (b0 + 46) 0 10 = some (nI (d 3)) ∧ gI h (b0 + 46) 0 11 = some (nI (d 4)) ∧ gI h (b0 + 46) 0 12 = some (nI (d 6)) ∧ gI h (b0 + 46) 0 13 = some (nI (d 7)) ∧ gI h (b0 + 46) 0 14 = some (nI (d 8)) := by
  obtain ⟨rl, T, R, X, P, Q, ea, ⟨⟨t8, t9, t10, t11, t12, t13, t14⟩, ⟨r27, r29, r31, r33⟩, al, ab, ap⟩, hO, hU, hV⟩ := hA
  obtain ⟨⟨g0, g1, g2, g3, g4, g5, g7⟩, gb, gl, gp, gm⟩ := hD
  have k := gI_a (h := h) (a := b0 + 46) (g := b0 + 1) (rl := rl) (T := T) (R := R) (X := X) (P := P) (Q := Q)
  rw [t8, t9, t10, t11, t12, t13, t14] at k
  rw [ea] at k
  exact k
theorem w_A (hD : GoodD d) (hA : AucAt b0 h (b0 + 46) d K t) : gA h (b0 + 46) 0 2 = some (b0 + 46 + 27) ∧ gA h (b0 + 46) 0 3 = some (b0 + 46 + 29) ∧ gA h (b0 + 46) 0 4 = some (b0 + 46 + 31) ∧ gA h (b0 + 46) 0 5 = some (b0 + 46 + 33) := by
  obtain ⟨rl, T, R, X, P, Q, ea, ⟨⟨t8, t9, t10, t11, t12, t13, t14⟩, ⟨r27, r29, r31, r33⟩, al, ab, ap⟩, hO, hU, hV⟩ := hA
  obtain ⟨⟨g0, g1, g2, g3, g4, g5, g7⟩, gb, gl, gp, gm⟩ := hD
  have k := gA_a (h := h) (a := b0 + 46) (g := b0 + 1) (rl := rl) (T := T) (R := R) (X := X) (P := P) (Q := Q)
  rw [ea] at k
  exact ⟨k.2.2.1, k.2.2.2.1, k.2.2.2.2.1, k.2.2.2.2.2.1⟩
theorem w_bA {p : Nat} (hp : p < d 1) (hD : GoodD d) (hA : AucAt b0 h (b0 + 46) d K t) : gA h (b0 + 46 + (2 + 5 * p)) 1 0 = some (b0 + 46 + (3 + 5 * p)) ∧ gA h (b0 + 46 + (2 + 5 * p)) 1 1 = some (b0 + 46 + (5 + 5 * p)) := by
  obtain ⟨rl, T, R, X, P, Q, ea, ⟨⟨t8, t9, t10, t11, t12, t13, t14⟩, ⟨r27, r29, r31, r33⟩, al, ab, ap⟩, hO, hU, hV⟩ := hA
  obtain ⟨⟨g0, g1, g2, g3, g4, g5, g7⟩, gb, gl, gp, gm⟩ := hD
  have k := gA_b (h := h) (a := b0 + 46) (g := b0 + 1) (rl := rl) (T := T) (R := R) (X := X) (P := P) (Q := Q) (show p < 5 by omega)
  rw [ea] at k
  exact k
theorem w_bI {p : Nat} (hp : p < d 1) (hD : GoodD d) (hA : AucAt b0 h (b0 + 46) d K t) : gI h (b0 + 46 + (2 + 5 * p)) 1 2 = some (nI (d (11 + 19 * p))) ∧ gI h (b0 + 46 + (2 + 5 * p)) 1 3 = some (nI (d (11 + 19 * p + 2))) := by
  obtain ⟨rl, T, R, X, P, Q, ea, ⟨⟨t8, t9, t10, t11, t12, t13, t14⟩, ⟨r27, r29, r31, r33⟩, al, ab, ap⟩, hO, hU, hV⟩ := hA
  obtain ⟨⟨g0, g1, g2, g3, g4, g5, g7⟩, gb, gl, gp, gm⟩ := hD
  have k := gI_b (h := h) (a := b0 + 46) (g := b0 + 1) (rl := rl) (T := T) (R := R) (X := X) (P := P) (Q := Q) (show p < 5 by omega)
  rw [(ap p hp).1, (ap p hp).2.1] at k
  rw [ea] at k
  exact k
theorem w_bid {p : Nat} (hp : p < d 1) (hD : GoodD d) (hA : AucAt b0 h (b0 + 46) d K t) : f_X0_bidder N (b0 + 46) (nI p) h = some (some (b0 + 46 + (2 + 5 * p)), h) := by
  obtain ⟨rl, T, R, X, P, Q, ea, ⟨⟨t8, t9, t10, t11, t12, t13, t14⟩, ⟨r27, r29, r31, r33⟩, al, ab, ap⟩, hO, hU, hV⟩ := hA
  obtain ⟨⟨g0, g1, g2, g3, g4, g5, g7⟩, gb, gl, gp, gm⟩ := hD
  have k := x_bidder (N := N) (h := h) (a := b0 + 46) (g := b0 + 1) (rl := rl) (T := T) (R := R) (X := X) (P := P) (Q := Q) t9 g1 hp
  rw [ea] at k
  exact k
theorem w_nobid {x : Int32} (hx : ¬ inP x (d 1)) (hD : GoodD d) (hA : AucAt b0 h (b0 + 46) d K t) : f_X0_bidder N (b0 + 46) x h = some (none, h) := by
  obtain ⟨rl, T, R, X, P, Q, ea, ⟨⟨t8, t9, t10, t11, t12, t13, t14⟩, ⟨r27, r29, r31, r33⟩, al, ab, ap⟩, hO, hU, hV⟩ := hA
  obtain ⟨⟨g0, g1, g2, g3, g4, g5, g7⟩, gb, gl, gp, gm⟩ := hD
  have k := x_nobidder (N := N) (h := h) (a := b0 + 46) (g := b0 + 1) (rl := rl) (T := T) (R := R) (X := X) (P := P) (Q := Q) t9 g1 hx
  rw [ea] at k
  exact k
theorem w_over (hD : GoodD d) (hA : AucAt b0 h (b0 + 46) d K t) : f_X0_isOver N (b0 + 46) h = some (b2 (overN d), h) := by
  obtain ⟨rl, T, R, X, P, Q, ea, ⟨⟨t8, t9, t10, t11, t12, t13, t14⟩, ⟨r27, r29, r31, r33⟩, al, ab, ap⟩, hO, hU, hV⟩ := hA
  obtain ⟨⟨g0, g1, g2, g3, g4, g5, g7⟩, gb, gl, gp, gm⟩ := hD
  have k := x_isOver (N := N) (h := h) (a := b0 + 46) (g := b0 + 1) (rl := rl) (T := T) (R := R) (X := X) (P := P) (Q := Q) t9 t10 r27 (by omega) g2 (by omega)
  rw [ea] at k
  exact k
theorem w_size_e {p : Nat} (hp : p < d 1) (hD : GoodD d) (hA : AucAt b0 h (b0 + 46) d K t) : f_X6_size N (b0 + 46 + (3 + 5 * p)) h = some (nI (d (11 + 19 * p + 1)), h) := by
  obtain ⟨rl, T, R, X, P, Q, ea, ⟨⟨t8, t9, t10, t11, t12, t13, t14⟩, ⟨r27, r29, r31, r33⟩, al, ab, ap⟩, hO, hU, hV⟩ := hA
  obtain ⟨⟨g0, g1, g2, g3, g4, g5, g7⟩, gb, gl, gp, gm⟩ := hD
  obtain ⟨p1, p2, p3, p4, p5⟩ := ap p hp
  obtain ⟨c8, w3, ce⟩ := gp p hp
  have hp5 : p < 5 := by omega
  have i3 := isR_e hp5
  have l3 := rlen_e hp5
  have k := x_size (N := N) (h := h) (a := b0 + 46) (g := b0 + 1) (rl := rl) (T := T) (R := R) (X := X) (P := P) (Q := Q) i3
  rw [p3] at k
  rw [ea] at k
  exact k
theorem w_holds_e {p : Nat} {x : Int32} (hp : p < d 1) (hx : inP x (d (11 + 19 * p + 1))) (hD : GoodD d) (hA : AucAt b0 h (b0 + 46) d K t) : f_X6_holds N (b0 + 46 + (3 + 5 * p)) x h = some (nI 1, h) := by
  obtain ⟨rl, T, R, X, P, Q, ea, ⟨⟨t8, t9, t10, t11, t12, t13, t14⟩, ⟨r27, r29, r31, r33⟩, al, ab, ap⟩, hO, hU, hV⟩ := hA
  obtain ⟨⟨g0, g1, g2, g3, g4, g5, g7⟩, gb, gl, gp, gm⟩ := hD
  obtain ⟨p1, p2, p3, p4, p5⟩ := ap p hp
  obtain ⟨c8, w3, ce⟩ := gp p hp
  have hp5 : p < 5 := by omega
  have i3 := isR_e hp5
  have l3 := rlen_e hp5
  have k := x_holds (N := N) (h := h) (a := b0 + 46) (g := b0 + 1) (rl := rl) (T := T) (R := R) (X := X) (P := P) (Q := Q) i3 p3 (by omega) hx
  rw [ea] at k
  exact k
theorem w_nholds_e {p : Nat} {x : Int32} (hp : p < d 1) (hx : ¬ inP x (d (11 + 19 * p + 1))) (hD : GoodD d) (hA : AucAt b0 h (b0 + 46) d K t) : f_X6_holds N (b0 + 46 + (3 + 5 * p)) x h = some (nI 0, h) := by
  obtain ⟨rl, T, R, X, P, Q, ea, ⟨⟨t8, t9, t10, t11, t12, t13, t14⟩, ⟨r27, r29, r31, r33⟩, al, ab, ap⟩, hO, hU, hV⟩ := hA
  obtain ⟨⟨g0, g1, g2, g3, g4, g5, g7⟩, gb, gl, gp, gm⟩ := hD
  obtain ⟨p1, p2, p3, p4, p5⟩ := ap p hp
  obtain ⟨c8, w3, ce⟩ := gp p hp
  have hp5 : p < 5 := by omega
  have i3 := isR_e hp5
  have l3 := rlen_e hp5
  have k := x_nholds (N := N) (h := h) (a := b0 + 46) (g := b0 + 1) (rl := rl) (T := T) (R := R) (X := X) (P := P) (Q := Q) i3 p3 (by omega) hx
  rw [ea] at k
  exact k
theorem w_at_e {p c : Nat} (hp : p < d 1) (hc : c < d (11 + 19 * p + 1)) (hD : GoodD d) (hA : AucAt b0 h (b0 + 46) d K t) : f_X6_at N (b0 + 46 + (3 + 5 * p)) (nI c) h = some (nI (idxN (d 0) (d (11 + 19 * p + 3 + 2 * c))), h) := by
  obtain ⟨rl, T, R, X, P, Q, ea, ⟨⟨t8, t9, t10, t11, t12, t13, t14⟩, ⟨r27, r29, r31, r33⟩, al, ab, ap⟩, hO, hU, hV⟩ := hA
  obtain ⟨⟨g0, g1, g2, g3, g4, g5, g7⟩, gb, gl, gp, gm⟩ := hD
  obtain ⟨p1, p2, p3, p4, p5⟩ := ap p hp
  obtain ⟨c8, w3, ce⟩ := gp p hp
  have hp5 : p < 5 := by omega
  have i3 := isR_e hp5
  have l3 := rlen_e hp5
  have k := x_at (N := N) (h := h) (a := b0 + 46) (g := b0 + 1) (rl := rl) (T := T) (X := X) (P := P) (Q := Q) i3 p3 (by omega) hc
  rw [(p5 c hc).1] at k
  rw [ea] at k
  exact k
theorem w_size_b {p : Nat} (hp : p < d 1) (hD : GoodD d) (hA : AucAt b0 h (b0 + 46) d K t) : f_X6_size N (b0 + 46 + (5 + 5 * p)) h = some (nI (d (11 + 19 * p + 1)), h) := by
  obtain ⟨rl, T, R, X, P, Q, ea, ⟨⟨t8, t9, t10, t11, t12, t13, t14⟩, ⟨r27, r29, r31, r33⟩, al, ab, ap⟩, hO, hU, hV⟩ := hA
  obtain ⟨⟨g0, g1, g2, g3, g4, g5, g7⟩, gb, gl, gp, gm⟩ := hD
  obtain ⟨p1, p2, p3, p4, p5⟩ := ap p hp
  obtain ⟨c8, w3, ce⟩ := gp p hp
  have hp5 : p < 5 := by omega
  have i3 := isR_b hp5
  have l3 := rlen_b hp5
  have k := x_size (N := N) (h := h) (a := b0 + 46) (g := b0 + 1) (rl := rl) (T := T) (R := R) (X := X) (P := P) (Q := Q) i3
  rw [p4] at k
  rw [ea] at k
  exact k
theorem w_holds_b {p : Nat} {x : Int32} (hp : p < d 1) (hx : inP x (d (11 + 19 * p + 1))) (hD : GoodD d) (hA : AucAt b0 h (b0 + 46) d K t) : f_X6_holds N (b0 + 46 + (5 + 5 * p)) x h = some (nI 1, h) := by
  obtain ⟨rl, T, R, X, P, Q, ea, ⟨⟨t8, t9, t10, t11, t12, t13, t14⟩, ⟨r27, r29, r31, r33⟩, al, ab, ap⟩, hO, hU, hV⟩ := hA
  obtain ⟨⟨g0, g1, g2, g3, g4, g5, g7⟩, gb, gl, gp, gm⟩ := hD
  obtain ⟨p1, p2, p3, p4, p5⟩ := ap p hp
  obtain ⟨c8, w3, ce⟩ := gp p hp
  have hp5 : p < 5 := by omega
  have i3 := isR_b hp5
  have l3 := rlen_b hp5
  have k := x_holds (N := N) (h := h) (a := b0 + 46) (g := b0 + 1) (rl := rl) (T := T) (R := R) (X := X) (P := P) (Q := Q) i3 p4 (by omega) hx
  rw [ea] at k
  exact k
theorem w_nholds_b {p : Nat} {x : Int32} (hp : p < d 1) (hx : ¬ inP x (d (11 + 19 * p + 1))) (hD : GoodD d) (hA : AucAt b0 h (b0 + 46) d K t) : f_X6_holds N (b0 + 46 + (5 + 5 * p)) x h = some (nI 0, h) := by
  obtain ⟨rl, T, R, X, P, Q, ea, ⟨⟨t8, t9, t10, t11, t12, t13, t14⟩, ⟨r27, r29, r31, r33⟩, al, ab, ap⟩, hO, hU, hV⟩ := hA
  obtain ⟨⟨g0, g1, g2, g3, g4, g5, g7⟩, gb, gl, gp, gm⟩ := hD
  obtain ⟨p1, p2, p3, p4, p5⟩ := ap p hp
  obtain ⟨c8, w3, ce⟩ := gp p hp
  have hp5 : p < 5 := by omega
  have i3 := isR_b hp5
  have l3 := rlen_b hp5
  have k := x_nholds (N := N) (h := h) (a := b0 + 46) (g := b0 + 1) (rl := rl) (T := T) (R := R) (X := X) (P := P) (Q := Q) i3 p4 (by omega) hx
  rw [ea] at k
  exact k
theorem w_at_b {p c : Nat} (hp : p < d 1) (hc : c < d (11 + 19 * p + 1)) (hD : GoodD d) (hA : AucAt b0 h (b0 + 46) d K t) : f_X6_at N (b0 + 46 + (5 + 5 * p)) (nI c) h = some (nI (d (11 + 19 * p + 3 + 2 * c + 1)), h) := by
  obtain ⟨rl, T, R, X, P, Q, ea, ⟨⟨t8, t9, t10, t11, t12, t13, t14⟩, ⟨r27, r29, r31, r33⟩, al, ab, ap⟩, hO, hU, hV⟩ := hA
  obtain ⟨⟨g0, g1, g2, g3, g4, g5, g7⟩, gb, gl, gp, gm⟩ := hD
  obtain ⟨p1, p2, p3, p4, p5⟩ := ap p hp
  obtain ⟨c8, w3, ce⟩ := gp p hp
  have hp5 : p < 5 := by omega
  have i3 := isR_b hp5
  have l3 := rlen_b hp5
  have k := x_at (N := N) (h := h) (a := b0 + 46) (g := b0 + 1) (rl := rl) (T := T) (X := X) (P := P) (Q := Q) i3 p4 (by omega) hc
  rw [(p5 c hc).2] at k
  rw [ea] at k
  exact k
theorem w_full_y {p : Nat} (hp : p < d 1) (h8 : d (11 + 19 * p + 1) = 8) (hD : GoodD d) (hA : AucAt b0 h (b0 + 46) d K t) : f_X6_isFull N (b0 + 46 + (3 + 5 * p)) h = some (nI 1, h) := by
  obtain ⟨rl, T, R, X, P, Q, ea, ⟨⟨t8, t9, t10, t11, t12, t13, t14⟩, ⟨r27, r29, r31, r33⟩, al, ab, ap⟩, hO, hU, hV⟩ := hA
  obtain ⟨⟨g0, g1, g2, g3, g4, g5, g7⟩, gb, gl, gp, gm⟩ := hD
  obtain ⟨p1, p2, p3, p4, p5⟩ := ap p hp
  have hp5 : p < 5 := by omega
  have i3 := isR_e hp5
  have l3 := rlen_e hp5
  have k := x_full (N := N) (h := h) (a := b0 + 46) (g := b0 + 1) (rl := rl) (T := T) (R := R) (X := X) (P := P) (Q := Q) i3 p3 (by omega)
  rw [ea] at k
  exact k
theorem w_full_n {p : Nat} (hp : p < d 1) (h8 : d (11 + 19 * p + 1) < 8) (hD : GoodD d) (hA : AucAt b0 h (b0 + 46) d K t) : f_X6_isFull N (b0 + 46 + (3 + 5 * p)) h = some (nI 0, h) := by
  obtain ⟨rl, T, R, X, P, Q, ea, ⟨⟨t8, t9, t10, t11, t12, t13, t14⟩, ⟨r27, r29, r31, r33⟩, al, ab, ap⟩, hO, hU, hV⟩ := hA
  obtain ⟨⟨g0, g1, g2, g3, g4, g5, g7⟩, gb, gl, gp, gm⟩ := hD
  obtain ⟨p1, p2, p3, p4, p5⟩ := ap p hp
  have hp5 : p < 5 := by omega
  have i3 := isR_e hp5
  have l3 := rlen_e hp5
  have k := x_nfull (N := N) (h := h) (a := b0 + 46) (g := b0 + 1) (rl := rl) (T := T) (R := R) (X := X) (P := P) (Q := Q) i3 p3 (by omega)
  rw [ea] at k
  exact k
theorem w_size_27 (hD : GoodD d) (hA : AucAt b0 h (b0 + 46) d K t) : f_X6_size N (b0 + 46 + 27) h = some (nI (d 2), h) := by
  obtain ⟨rl, T, R, X, P, Q, ea, ⟨⟨t8, t9, t10, t11, t12, t13, t14⟩, ⟨r27, r29, r31, r33⟩, al, ab, ap⟩, hO, hU, hV⟩ := hA
  obtain ⟨⟨g0, g1, g2, g3, g4, g5, g7⟩, gb, gl, gp, gm⟩ := hD
  have k := x_size (N := N) (h := h) (a := b0 + 46) (g := b0 + 1) (rl := rl) (T := T) (R := R) (X := X) (P := P) (Q := Q) isR_27
  rw [r27] at k
  rw [ea] at k
  exact k
theorem w_size_31 (hD : GoodD d) (hA : AucAt b0 h (b0 + 46) d K t) : f_X6_size N (b0 + 46 + 31) h = some (nI (d 5), h) := by
  obtain ⟨rl, T, R, X, P, Q, ea, ⟨⟨t8, t9, t10, t11, t12, t13, t14⟩, ⟨r27, r29, r31, r33⟩, al, ab, ap⟩, hO, hU, hV⟩ := hA
  obtain ⟨⟨g0, g1, g2, g3, g4, g5, g7⟩, gb, gl, gp, gm⟩ := hD
  have k := x_size (N := N) (h := h) (a := b0 + 46) (g := b0 + 1) (rl := rl) (T := T) (R := R) (X := X) (P := P) (Q := Q) isR_31
  rw [r31] at k
  rw [ea] at k
  exact k
theorem w_holds_31 {x : Int32} (hx : inP x (d 5)) (hD : GoodD d) (hA : AucAt b0 h (b0 + 46) d K t) : f_X6_holds N (b0 + 46 + 31) x h = some (nI 1, h) := by
  obtain ⟨rl, T, R, X, P, Q, ea, ⟨⟨t8, t9, t10, t11, t12, t13, t14⟩, ⟨r27, r29, r31, r33⟩, al, ab, ap⟩, hO, hU, hV⟩ := hA
  obtain ⟨⟨g0, g1, g2, g3, g4, g5, g7⟩, gb, gl, gp, gm⟩ := hD
  have k := x_holds (N := N) (h := h) (a := b0 + 46) (g := b0 + 1) (rl := rl) (T := T) (R := R) (X := X) (P := P) (Q := Q) isR_31 r31 g5 hx
  rw [ea] at k
  exact k
theorem w_nholds_31 {x : Int32} (hx : ¬ inP x (d 5)) (hD : GoodD d) (hA : AucAt b0 h (b0 + 46) d K t) : f_X6_holds N (b0 + 46 + 31) x h = some (nI 0, h) := by
  obtain ⟨rl, T, R, X, P, Q, ea, ⟨⟨t8, t9, t10, t11, t12, t13, t14⟩, ⟨r27, r29, r31, r33⟩, al, ab, ap⟩, hO, hU, hV⟩ := hA
  obtain ⟨⟨g0, g1, g2, g3, g4, g5, g7⟩, gb, gl, gp, gm⟩ := hD
  have k := x_nholds (N := N) (h := h) (a := b0 + 46) (g := b0 + 1) (rl := rl) (T := T) (R := R) (X := X) (P := P) (Q := Q) isR_31 r31 g5 hx
  rw [ea] at k
  exact k
theorem w_at_29 {b : Nat} (hb : b < d 5) (hD : GoodD d) (hA : AucAt b0 h (b0 + 46) d K t) : f_X6_at N (b0 + 46 + 29) (nI b) h = some (nI (d (118 + 3 * b)), h) := by
  obtain ⟨rl, T, R, X, P, Q, ea, ⟨⟨t8, t9, t10, t11, t12, t13, t14⟩, ⟨r27, r29, r31, r33⟩, al, ab, ap⟩, hO, hU, hV⟩ := hA
  obtain ⟨⟨g0, g1, g2, g3, g4, g5, g7⟩, gb, gl, gp, gm⟩ := hD
  have k := x_at (N := N) (h := h) (a := b0 + 46) (g := b0 + 1) (rl := rl) (T := T) (X := X) (P := P) (Q := Q) isR_29 r29 g5 hb
  rw [(ab b hb).1] at k
  rw [ea] at k
  exact k
theorem w_at_31 {b : Nat} (hb : b < d 5) (hD : GoodD d) (hA : AucAt b0 h (b0 + 46) d K t) : f_X6_at N (b0 + 46 + 31) (nI b) h = some (nI (idxN (d 0) (d (118 + 3 * b + 1))), h) := by
  obtain ⟨rl, T, R, X, P, Q, ea, ⟨⟨t8, t9, t10, t11, t12, t13, t14⟩, ⟨r27, r29, r31, r33⟩, al, ab, ap⟩, hO, hU, hV⟩ := hA
  obtain ⟨⟨g0, g1, g2, g3, g4, g5, g7⟩, gb, gl, gp, gm⟩ := hD
  have k := x_at (N := N) (h := h) (a := b0 + 46) (g := b0 + 1) (rl := rl) (T := T) (X := X) (P := P) (Q := Q) isR_31 r31 g5 hb
  rw [(ab b hb).2.1] at k
  rw [ea] at k
  exact k
theorem w_at_33 {b : Nat} (hb : b < d 5) (hD : GoodD d) (hA : AucAt b0 h (b0 + 46) d K t) : f_X6_at N (b0 + 46 + 33) (nI b) h = some (nI (d (118 + 3 * b + 2)), h) := by
  obtain ⟨rl, T, R, X, P, Q, ea, ⟨⟨t8, t9, t10, t11, t12, t13, t14⟩, ⟨r27, r29, r31, r33⟩, al, ab, ap⟩, hO, hU, hV⟩ := hA
  obtain ⟨⟨g0, g1, g2, g3, g4, g5, g7⟩, gb, gl, gp, gm⟩ := hD
  have k := x_at (N := N) (h := h) (a := b0 + 46) (g := b0 + 1) (rl := rl) (T := T) (X := X) (P := P) (Q := Q) isR_33 r33 g5 hb
  rw [(ab b hb).2.2] at k
  rw [ea] at k
  exact k
theorem w_prod {s e : Nat} (hNN : 100 < N) (hG : GrpAt h (b0 + 1)) (hD : GoodD d) (hA : AucAt b0 h (b0 + 46) d K t) (hse : s ≤ e) (he : e ≤ d 5) : f_X0_productOfBids N (b0 + 46) (nI s) (nI e) h = some (nI (prodF (bidE d) (e - s) s 0), h) := by
  obtain ⟨rl, T, R, X, P, Q, ea, hR, hO, hU, hV⟩ := hA
  obtain ⟨⟨g0, g1, g2, g3, g4, g5, g7⟩, gb, gl, gp, gm⟩ := hD
  have k := x_productOfBids (N := N) (a := b0 + 46) (rl := rl) hG (by omega) hNN g0 hR g5 hse he (fun k hk => (gb k hk).2.1)
  rw [ea] at k
  exact k
theorem w_price {p c : Nat} (hNN : 1000 < N) (hG : GrpAt h (b0 + 1)) (hD : GoodD d) (hC : CodeR d K t) (hA : AucAt b0 h (b0 + 46) d K t) (hp : p < d 1) (hc : c < d (11 + 19 * p + 1)) : ∃ h', f_X0_priceOf N (b0 + 46) (b0 + 46 + (2 + 5 * p)) (nI c) h = some (nI (priT d K t p c), h') ∧ AucAt b0 h' (b0 + 46) d K t ∧ FrA b0 h h' := by
  obtain ⟨rl, T, R, X, P, Q, ea, hR, hO, hU, hV⟩ := hA
  obtain ⟨σ, k⟩ := x_priceOf (N := N) (a := b0 + 46) (rl := rl) hG (by omega) hNN hD hR hU (RAd_out hV AAd_now) hC hp hc
  rw [ea] at k
  exact ⟨_, k, A_close hU hV hR hO⟩
theorem w_numberOf {e : Nat} (hNN : 10 < N) (hGo : Gob b0 h ea) (hG : GrpAt h (b0 + 1)) (hD : GoodD d) (hA : AucAt b0 h (b0 + 46) d K t) (he : e < fctN (d 0)) : f_X8_numberOf N b0 (nI e) h = some (nI (numN (d 0) e), h) := by
  have g0 := hD.1.1
  have := fct_le g0
  have k1 := x_toNumber hG hNN g0 (show e < 120 by omega)
  have k2 := (w_T hD hA).1
  simp only [f_X8_numberOf, w_g0 hGo, w_g2 hGo, k2, w_o2 hG, k1, Option.bind_some]
theorem w_elementOf {x : Int32} (hNN : 10 < N) (hGo : Gob b0 h ea) (hG : GrpAt h (b0 + 1)) (hD : GoodD d) (hA : AucAt b0 h (b0 + 46) d K t) : f_X8_elementOf N b0 x h = match eltI (d 0) x with
    | some e => some (.inl (nI e), h)
    | none => some (.inr 1, zthr 1 h) := by
  have g0 := hD.1.1
  have := fct_le g0
  have k1 := x_fromNumber hG hNN g0 x
  have k2 := (w_T hD hA).1
  cases hx : eltI (d 0) x with
  | none =>
    rw [hx] at k1
    have k3 : (-nI 1 = (-1 : Int32)) = True := eq_true rfl
    simp only [f_X8_elementOf, w_g0 hGo, w_g2 hGo, k2, w_o2 hG, k1, eI, k3, Option.bind_some, ↓reduceIte]
  | some e =>
    obtain ⟨he, -⟩ := eltI_some g0 hx
    rw [hx] at k1
    have k3 : (nI e = (-1 : Int32)) = False := eq_false (fun h9 => nI_nn (show e < 2 ^ 31 by omega) (by rw [h9]; decide))
    simp only [f_X8_elementOf, w_g0 hGo, w_g2 hGo, k2, w_o2 hG, k1, eI, k3, Option.bind_some, ↓reduceIte]
theorem w_existing {p : Nat} (hGo : Gob b0 h ea) (hD : GoodD d) (hA : AucAt b0 h (b0 + 46) d K t) (hp : p < d 1) : f_X8_existing N b0 (nI p) h = some (.inl (b0 + 46 + (2 + 5 * p)), h) := by
  simp only [f_X8_existing, w_g2 hGo, w_o0 hA, w_bid hp hD hA, znl, Option.bind_some]
theorem w_nexisting {x : Int32} (hGo : Gob b0 h ea) (hD : GoodD d) (hA : AucAt b0 h (b0 + 46) d K t) (hx : ¬ inP x (d 1)) : f_X8_existing N b0 x h = some (.inr 2, zthr 2 h) := by
  simp only [f_X8_existing, w_g2 hGo, w_o0 hA, w_nobid hx hD hA, znl, Option.bind_some]
theorem w_turn (hGo : Gob b0 h ea) (hD : GoodD d) (hA : AucAt b0 h (b0 + 46) d K t) (ho : overN d = false) : f_X8_bidderInTurn N b0 h = some (.inl (b0 + 46 + (2 + 5 * d 4)), h) := by
  have o1 := (overN_false ho).1
  have h4 : d 4 < d 1 := by have := hD.1.2.2.2.2.1; omega
  have k1 := w_over (N := N) hD hA
  rw [ho] at k1
  have k2 := (w_T hD hA).2.2.2.1
  simp only [f_X8_bidderInTurn, w_g2 hGo, w_o0 hA, k1, k2, w_bid h4 hD hA, znl, Option.bind_some, b2_f, ↓reduceIte]
theorem w_noturn (hGo : Gob b0 h ea) (hD : GoodD d) (hA : AucAt b0 h (b0 + 46) d K t) (ho : overN d = true) : f_X8_bidderInTurn N b0 h = some (.inr 0, zthr 0 h) := by
  have k1 := w_over (N := N) hD hA
  rw [ho] at k1
  have e1 : ((1 : Int32) = 0) = False := eq_false (by decide)
  simp only [f_X8_bidderInTurn, w_g2 hGo, w_o0 hA, k1, e1, Option.bind_some, b2_t, ↓reduceIte]
end M93

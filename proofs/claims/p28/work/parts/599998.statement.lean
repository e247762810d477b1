/-- what closes a statement -/
def tlC (N r : Nat) (y : Int32 × zH) : Option (Int32 × zH) := if y.1 = 0 then some ((0 : Int32), y.2) else (onO 7 r y.2 (f_X7_takeSign N r (59 : Int32) y.2)).bind fun z => if z.1 = 0 then some ((0 : Int32), z.2) else some ((1 : Int32), z.2)
section M99998a
variable {N r m : Nat} {X Y Y1 Y2 Y3 Z A F : zH} {v w : Int32} {a : Nat}
theorem tlC_0 : tlC N r (nI 0, X) = some (nI 0, X) := if_pos rfl
theorem tlC_v (o : Oh 7 r X) (t : f_X7_takeSign N r (nI 59) X = some (v, Y)) (hv : v = nI 0 ∨ v = nI 1) : tlC N r (nI 1, X) = some (v, Y) := by
  unfold tlC
  rw [if_neg (show ¬ (nI 1, X).1 = 0 from i1ne)]
  dsimp only
  rw [o, show (59 : Int32) = nI 59 from rfl, t, Option.bind_some]
  rcases hv with rfl | rfl
  · exact if_pos rfl
  · exact if_neg i1ne
theorem cst_1 (o : Oh 7 r X) (y1 : f_X7_isWord N r 1 X = some (nI 1, X)) : f_X7_takeStatement N r X = (f_X7_takePlayer N r X).bind (tlC N r) := by
  unfold f_X7_takeStatement
  rw [o, y1, Option.bind_some, if_neg (show ¬ (nI 1, X).1 = 0 from i1ne)]
  dsimp only
  rw [o]
  rfl
theorem cst_2 (o : Oh 7 r X) (n1 : f_X7_isWord N r 1 X = some (nI 0, X)) (y2 : f_X7_isWord N r 2 X = some (nI 1, X)) : f_X7_takeStatement N r X = (f_X7_takeCard N r X).bind (tlC N r) := by
  unfold f_X7_takeStatement
  rw [o, n1, Option.bind_some, if_pos (show (nI 0, X).1 = 0 from rfl)]
  dsimp only
  rw [o, y2, Option.bind_some, if_neg (show ¬ (nI 1, X).1 = 0 from i1ne)]
  dsimp only
  rw [o]
  rfl
theorem cst_3 (o : Oh 7 r X) (n1 : f_X7_isWord N r 1 X = some (nI 0, X)) (n2 : f_X7_isWord N r 2 X = some (nI 0, X)) (y3 : f_X7_isWord N r 3 X = some (nI 1, X)) : f_X7_takeStatement N r X = (f_X7_takeLot N r X).bind (tlC N r) := by
  unfold f_X7_takeStatement
  rw [o, n1, Option.bind_some, if_pos (show (nI 0, X).1 = 0 from rfl)]
  dsimp only
  rw [o, n2, Option.bind_some, if_pos (show (nI 0, X).1 = 0 from rfl)]
  dsimp only
  rw [o, y3, Option.bind_some, if_neg (show ¬ (nI 1, X).1 = 0 from i1ne)]
  dsimp only
  rw [o]
  rfl
theorem cst_4 (o : Oh 7 r X) (n1 : f_X7_isWord N r 1 X = some (nI 0, X)) (n2 : f_X7_isWord N r 2 X = some (nI 0, X)) (n3 : f_X7_isWord N r 3 X = some (nI 0, X)) (y4 : f_X7_isWord N r 4 X = some (nI 1, X)) (g : gI X r 7 11 = some (nI 0)) : f_X7_takeStatement N r X = (f_X7_takePrice N r X).bind (tlC N r) := by
  unfold f_X7_takeStatement
  rw [o, n1, Option.bind_some, if_pos (show (nI 0, X).1 = 0 from rfl)]
  dsimp only
  rw [o, n2, Option.bind_some, if_pos (show (nI 0, X).1 = 0 from rfl)]
  dsimp only
  rw [o, n3, Option.bind_some, if_pos (show (nI 0, X).1 = 0 from rfl)]
  dsimp only
  rw [o, y4, Option.bind_some, if_neg (show ¬ (nI 1, X).1 = 0 from i1ne)]
  dsimp only
  rw [g, Option.bind_some, if_pos (show nI 0 = (0 : Int32) from rfl), o]
  rfl
theorem cst_f (o : Oh 7 r X) (g5 : gI X r 7 5 = some v) (f : f_X7_fail N r (-nI 2) v X = some (nI 0, Y)) : f_X7_takeStatement_j131 N r X = some (nI 0, Y) := by
  unfold f_X7_takeStatement_j131
  rw [g5, Option.bind_some, o, show (-2 : Int32) = -nI 2 from rfl, f, Option.bind_some]
  rfl
theorem cst_5 (o : Oh 7 r X) (n1 : f_X7_isWord N r 1 X = some (nI 0, X)) (n2 : f_X7_isWord N r 2 X = some (nI 0, X)) (n3 : f_X7_isWord N r 3 X = some (nI 0, X)) (y4 : f_X7_isWord N r 4 X = some (nI 1, X)) (g : gI X r 7 11 = some (nI 1)) : f_X7_takeStatement N r X = f_X7_takeStatement_j131 N r X := by
  unfold f_X7_takeStatement
  rw [o, n1, Option.bind_some, if_pos (show (nI 0, X).1 = 0 from rfl)]
  dsimp only
  rw [o, n2, Option.bind_some, if_pos (show (nI 0, X).1 = 0 from rfl)]
  dsimp only
  rw [o, n3, Option.bind_some, if_pos (show (nI 0, X).1 = 0 from rfl)]
  dsimp only
  rw [o, y4, Option.bind_some, if_neg (show ¬ (nI 1, X).1 = 0 from i1ne)]
  dsimp only
  rw [g, Option.bind_some, if_neg (show ¬ nI 1 = (0 : Int32) from i1ne)]
theorem cst_6 (o : Oh 7 r X) (n1 : f_X7_isWord N r 1 X = some (nI 0, X)) (n2 : f_X7_isWord N r 2 X = some (nI 0, X)) (n3 : f_X7_isWord N r 3 X = some (nI 0, X)) (n4 : f_X7_isWord N r 4 X = some (nI 0, X)) : f_X7_takeStatement N r X = f_X7_takeStatement_j131 N r X := by
  unfold f_X7_takeStatement
  rw [o, n1, Option.bind_some, if_pos (show (nI 0, X).1 = 0 from rfl)]
  dsimp only
  rw [o, n2, Option.bind_some, if_pos (show (nI 0, X).1 = 0 from rfl)]
  dsimp only
  rw [o, n3, Option.bind_some, if_pos (show (nI 0, X).1 = 0 from rfl)]
  dsimp only
  rw [o, n4, Option.bind_some, if_pos (show (nI 0, X).1 = 0 from rfl)]
end M99998a
section M99998
variable {h h0 h2 : zH} {b0 rl m N : Nat} {V B C : Nat → Int32} {cz : Int32} {T R : Nat → Int32} {X : Nat → Nat → Int32} {P Q : Nat → Int32} {S S0 B1 D : Nat → Int32} {H : Nat → Nat → Int32} {J : Nat → Int64} {L U Z W : Nat → Int32} {b e t : Nat → Nat} {len q hp K : Nat}
theorem GoodL_4 {k : zH} (hGL : GoodL b0 h0 B b len S0 k S e q) : GoodL b0 h0 B b len S0 k (upd S 4 (nI q)) e q := by
  obtain ⟨h, rl, V, cz, C, T, R, X, P, Q, hp, K, t, c1, hA, hs4, hV, hcz, hD, hL, hK⟩ := hGL
  obtain ⟨hq, sq, tk, v12, ⟨pm, p1, p2, p3⟩, s3, s5⟩ := hA
  exact ⟨h, rl, V, cz, C, T, R, X, P, Q, hp, K, t, c1, ⟨hq, sq, tk, v12, ⟨q, hq, sq, upS_eq _ _ _⟩, (upS_ne (by omega)).trans s3, (upS_ne (by omega)).trans s5⟩, ⟨(upS_ne (by omega)).trans hs4.1, (upS_ne (by omega)).trans hs4.2.1, (upS_ne (by omega)).trans hs4.2.2⟩, hV, hcz, hD, hL, SKL_tr hK (SKL_k SK_4)⟩
theorem cs_gI12 {r0 g : Nat} : gI (cset h r0 g rl V B cz C T R X P Q) r0 7 12 = some (V 12) := by
  unfold cset
  simp only [rg_I]
theorem cs_gI4 {r0 g : Nat} : gI (cset h r0 g rl V B cz C T R X P Q) r0 7 4 = some (V 4) := by
  unfold cset
  simp only [rg_I]
theorem rd_bad {n i : Nat} {r0 : Nat} {x : Int32} {k : zH} (g : gI k r0 7 12 = some x) (hx : ¬ x = nI 0) : f_X7_read_l68 N r0 (n + 1) (nI i) k = some (x, k) := by
  rw [f_X7_read_l68]
  by_cases h7 : (700 : Int32) ≤ nI i
  · rw [if_pos h7, g, Option.bind_some]
  · rw [if_neg h7, g, Option.bind_some, if_neg (show ¬ x = (0 : Int32) from hx), Option.bind_some]
theorem rd_end {n i : Nat} {r0 : Nat} {k : zH} (hi : i < 700) (g : gI k r0 7 12 = some (nI 0)) (g4 : gI k r0 7 4 = some (nI 0)) : f_X7_read_l68 N r0 (n + 1) (nI i) k = some (nI 0, k) := by
  rw [f_X7_read_l68, if_neg (show ¬ (700 : Int32) ≤ nI i from of_eq_false (nleF (a := 700) (b := i) (by omega) hi)), g, Option.bind_some, if_pos (show nI 0 = (0 : Int32) from rfl), g4, Option.bind_some, if_pos (show nI 0 = (0 : Int32) from rfl), Option.bind_some]
theorem rd_st {n i : Nat} {r0 : Nat} {x v : Int32} {k k' : zH} (o : Oh 7 r0 k) (hi : i < 700) (g : gI k r0 7 12 = some (nI 0)) (g4 : gI k r0 7 4 = some x) (hx : ¬ x = nI 0) (st : f_X7_takeStatement N r0 k = some (v, k')) : f_X7_read_l68 N r0 (n + 1) (nI i) k = f_X7_read_l68 N r0 n (nI (i + 1)) k' := by
  rw [f_X7_read_l68, if_neg (show ¬ (700 : Int32) ≤ nI i from of_eq_false (nleF (a := 700) (b := i) (by omega) hi)), g, Option.bind_some, if_pos (show nI 0 = (0 : Int32) from rfl), g4, Option.bind_some, if_neg (show ¬ x = (0 : Int32) from hx), o, st, Option.bind_some, show nI i + (1 : Int32) = nI (i + 1) from nadd i 1]
theorem nI_nm {c : Nat} (hc : c < 256) : ¬ nI c = -nI 1 := fun h9 => nI_pos (n := c) (by omega) (by rw [h9]; decide)
def EndL (b0 : Nat) (h0 : zH) (B : Nat → Int32) (b : Nat → Nat) (len : Nat) (S0 : Nat → Int32) (Y : (Nat → Int32) → (Nat → Nat) → zH) (k1 : zH → Option (Int32 × zH)) (Fc : Option (Int32 × zH)) (Fm : Option (Int32 × zH)) : Prop :=
  ∃ (k : zH) (S : Nat → Int32) (e : Nat → Nat), Fm = k1 (Y S e) ∧ ((Fc = some (S 5, k) ∧ FailL b0 h0 B S0 k S) ∨ (Fc = some (nI 0, k) ∧ ∃ q, GoodL b0 h0 B b len S0 k S e q))
end M99998

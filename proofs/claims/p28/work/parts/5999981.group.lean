theorem nI_ux (x : Int32) : nI (ux x) = x := ux_inj (ux_nI x.toUInt32.toNat_lt)
def e0N (E : Nat → Int32) : Nat → Nat := fun j => if j < 1378 then 0 else ux (E j)
def clE (E : Nat → Int32) (k : Nat) : Nat → Int32 := fun j => if k ≤ j ∧ j < 1378 then nI 0 else E j
theorem clE_0 (E : Nat → Int32) : clE E 0 = dI (e0N E) := by
  funext j
  show (if 0 ≤ j ∧ j < 1378 then nI 0 else E j) = nI (if j < 1378 then 0 else ux (E j))
  by_cases hj : j < 1378
  · rw [if_pos ⟨Nat.zero_le _, hj⟩, if_pos hj]
  · rw [if_neg (by omega), if_neg hj, nI_ux]
theorem clE_end (E : Nat → Int32) : clE E 1378 = E := funext fun j => if_neg (by omega)
theorem clE_step (E : Nat → Int32) {k : Nat} (hk : k < 1378) : clE (upd E k (nI 0)) (k + 1) = clE E k := by
  funext j
  unfold clE
  by_cases hj : j = k
  · subst hj
    rw [if_neg (by omega), upS_eq, if_pos (by omega)]
  · rw [upS_ne hj]
    by_cases h2 : k + 1 ≤ j ∧ j < 1378
    · rw [if_pos h2, if_pos (by omega)]
    · rw [if_neg h2, if_neg (by omega)]
def Sld (S : Nat → Int32) (len : Nat) : Nat → Int32 := upd (upd (upd (upd (upd (upd (upd (upd S 0 (nI 0)) 2 (nI 0)) 3 (nI len)) 4 (nI 0)) 5 (nI 0)) 6 (-nI 1)) 13 (nI 0)) 14 (nI 0)
section M999981a
variable {N m r a : Nat} {X Y Z A F G : zH} {v w : Int32}
theorem cg_0 (o : Oh 7 r X) (t : f_X7_isWord N r 0 X = some (nI 0, X)) (g5 : gI X r 7 5 = some v) (f : f_X7_fail N r (-nI 2) v X = some (nI 0, Y)) : f_X7_takeGroup N r X = some (nI 0, Y) := by
  unfold f_X7_takeGroup
  rw [o, t, Option.bind_some, if_pos (show (nI 0, X).1 = 0 from rfl)]
  dsimp only
  rw [g5, Option.bind_some, o, show (-2 : Int32) = -nI 2 from rfl, f, Option.bind_some]
  rfl
theorem cg_1 (o : Oh 7 r X) (oy : Oh 7 r Y) (t : f_X7_isWord N r 0 X = some (nI 1, X)) (ad : f_X7_advance N r X = some Y) (n : f_X7_takeNumber N r (nI 2) (nI 5) Y = some (nI 0, Z)) : f_X7_takeGroup N r X = some (nI 0, Z) := by
  unfold f_X7_takeGroup
  rw [o, t, Option.bind_some, if_neg (show ¬ (nI 1, X).1 = 0 from i1ne)]
  dsimp only
  rw [o, ad, Option.bind_some, oy, show (2 : Int32) = nI 2 from rfl, show (5 : Int32) = nI 5 from rfl, n, Option.bind_some, if_pos (show (nI 0, Z).1 = 0 from rfl)]
  rfl
theorem cg_2 (o : Oh 7 r X) (oy : Oh 7 r Y) (t : f_X7_isWord N r 0 X = some (nI 1, X)) (ad : f_X7_advance N r X = some Y) (n : f_X7_takeNumber N r (nI 2) (nI 5) Y = some (nI 1, Z)) (ga : gA Z r 7 9 = some a) (g8 : gI Z r 7 8 = some w) (p : pF Z a 0 8 (.int w) = some A) (oa : Oh 7 r A) (ts : f_X7_takeSign N r (nI 59) A = some (v, F)) (hv : v = nI 0 ∨ v = nI 1) : f_X7_takeGroup N r X = some (v, F) := by
  unfold f_X7_takeGroup
  rw [o, t, Option.bind_some, if_neg (show ¬ (nI 1, X).1 = 0 from i1ne)]
  dsimp only
  rw [o, ad, Option.bind_some, oy, show (2 : Int32) = nI 2 from rfl, show (5 : Int32) = nI 5 from rfl, n, Option.bind_some, if_neg (show ¬ (nI 1, Z).1 = 0 from i1ne)]
  dsimp only
  rw [ga, Option.bind_some, g8, Option.bind_some, p, Option.bind_some, oa, show (59 : Int32) = nI 59 from rfl, ts, Option.bind_some]
  dsimp only
  rcases hv with rfl | rfl
  · rw [zB_0', Option.bind_some]
  · rw [zB_1', Option.bind_some]
end M999981a
theorem inN_of {v : Nat} (h1 : 2 ≤ v) (h2 : v < 6) : inN v := by
  unfold inN
  omega
section M999981
variable {h h0 h2 : zH} {b0 rl m N : Nat} {V B C : Nat → Int32} {cz : Int32} {T R : Nat → Int32} {X : Nat → Nat → Int32} {P Q : Nat → Int32} {S S0 B1 D E : Nat → Int32} {H : Nat → Nat → Int32} {J : Nat → Int64} {L U Z W : Nat → Int32} {b e t : Nat → Nat} {len q hp K : Nat}
theorem cs_p8 {x : Int32} : pF (cset h (b0 + 4) (b0 + 1) rl V B cz C T R X P Q) (b0 + 4 + 4) 0 8 (.int x) = some (cset (h) (b0 + 4) (b0 + 1) (rl) (V) B (cz) (C) (upd T 8 x) (R) (X) (P) (Q)) := by
  rw [cs_comm, pF_a8, cs_comm]
end M999981

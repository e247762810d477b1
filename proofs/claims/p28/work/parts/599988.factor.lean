def PSt (b : Nat → Nat) (len : Nat) (V : Nat → Int32) (cz : Int32) (C S : Nat → Int32) (e t : Nat → Nat) (q K dep : Nat) : Prop := At b len V S q ∧ (S 13 = nI dep ∧ S 6 = -nI 1) ∧ cz = nI K ∧ (∀ k, k < K → C k = clsC (t k)) ∧ CdM e t K ∧ WFt t K
def Ok1 (V V' S S' : Nat → Int32) (e e' t t' : Nat → Nat) (q q' K K' hg : Nat) : Prop := q < q' ∧ V45 V V' ∧ SK S S' ∧ (∀ j, j < 178 → j ≠ 10 → e' j = e j) ∧ (∀ k, k < K → t' k = t k) ∧ K ≤ K' ∧ hgt t' K' = hgt t K + hg ∧ K' + q ≤ K + q' ∧ 2 * mPos t' K' + 3 * q ≤ 2 * mPos t K + 3 * q' + hg
def LSt (b : Nat → Nat) (len : Nat) (X : (Nat → Int32) → Int32 → (Nat → Int32) → zH) (Y : (Nat → Int32) → (Nat → Nat) → zH) (V S : Nat → Int32) (e t : Nat → Nat) (q K dep : Nat) (Fc : Option (Int32 × zH)) (Fm : Option zH) : Prop :=
  (∃ V' cz' C' S' e', Fc = some (nI 0, X V' cz' C') ∧ Fm = some (Y S' e') ∧ Fl V V' S S' cz') ∨
  (∃ V' cz' C' S' e' t' q' K', Fc = some (nI 1, X V' cz' C') ∧ Fm = some (Y S' e') ∧ PSt b len V' cz' C' S' e' t' q' K' dep ∧ Ok1 V V' S S' e e' t t' q q' K K' 1)
theorem wn_ne : ∀ w, w < 4 → ((-nI (w + 1) : Int32) = nI 0) = False := fun w hw => eq_false (by
  rcases (show w = 0 ∨ w = 1 ∨ w = 2 ∨ w = 3 by omega) with rfl | rfl | rfl | rfl <;> decide)
theorem clsC_v {w : Nat} : clsC (10000 + w) = -nI (w + 1) := by
  unfold clsC
  rw [if_neg (by omega), show 10000 + w - 9999 = w + 1 by omega]
theorem nm_le : ((nI 0 : Int32) ≤ -nI 1) = False := eq_false (by decide)
theorem hi_c {x : Nat} (hx : x < 2 ^ 30) : ∀ v, v < 2 ^ 30 → (nI v ≤ nI x) = (v < x + 1) := fun v hv => by
  rw [nle (by omega) (by omega)]
  exact propext ⟨fun h => by omega, fun h => by omega⟩
theorem hi_m {x : Nat} (hx : x < 2 ^ 30) : ∀ v, v < 2 ^ 30 → (nI x < nI v) = (x + 1 ≤ v) := fun v hv => by
  rw [nlt (by omega) (by omega)]
  rfl
theorem Ok1_push {V V' S S' : Nat → Int32} {e e' t : Nat → Nat} {q q' K c : Nat} (hq : q < q') (hV : V45 V V') (hS : SK S S') (he : ∀ j, j < 178 → j ≠ 10 → e' j = e j) (hc : c < 10004) : Ok1 V V' S S' e e' t (upN t K c) q q' K (K + 1) 1 := by
  have m1 := mPos_congr (t := t) (t' := upN t K c) K (fun j hj => upN_lt j hj)
  have h1 := hgt_congr (t := t) (t' := upN t K c) K (fun j hj => upN_lt j hj)
  refine ⟨hq, hV, hS, he, fun k hk => upN_lt k hk, by omega, ?_, by omega, ?_⟩
  · rw [hgt_va (by rw [upN_eq]; exact hc), h1]
  · rw [mPos_va (by rw [upN_eq]; exact hc), m1]
    omega
theorem e4_keep {e : Nat → Nat} {k w x : Nat} : ∀ j, j < 178 → j ≠ 10 → upN (upN (upN (upN e (178 + k) w) 10 (k + 1)) (178 + (k + 1)) x) 10 (k + 1 + 1) j = e j := fun j h1 h2 => by
  rw [upN_ne h2, upN_ne (by omega), upN_ne h2, upN_ne (by omega)]
section M99988
variable {h h2 : zH} {r0 g m N : Nat} {V B C : Nat → Int32} {cz : Int32} {S B1 D : Nat → Int32} {H : Nat → Nat → Int32} {J : Nat → Int64} {L U Z W : Nat → Int32} {e t b : Nat → Nat} {len q K dep : Nat}
theorem mErr_5 {p off : Nat} {code : Int32} : mErr S p code off 5 = code := by
  unfold mErr
  rw [upS_ne (by omega), upS_eq]
theorem mErr_4 {p off : Nat} {code : Int32} : mErr S p code off 4 = nI p := by
  unfold mErr
  rw [upS_ne (by omega), upS_ne (by omega), upS_eq]
/-- the class tries the words of variables -/
theorem var_y0 {X : zH} (ho : ∀ {β : Type} {G : Option β}, onO 7 r0 X G = G) (y : f_X7_isWord N r0 5 X = some (nI 1, X)) : f_X7_takeVariable N r0 X = f_X7_takeVariable_j56 N r0 (-nI 1) X := by
  have e1 : (nI 1 = nI 0) = False := eq_false (by decide)
  simp only [f_X7_takeVariable, ho, y, e1, nlit, ↓reduceIte, Option.bind_some]
theorem var_y1 {X : zH} (ho : ∀ {β : Type} {G : Option β}, onO 7 r0 X G = G) (n5 : f_X7_isWord N r0 5 X = some (nI 0, X)) (y : f_X7_isWord N r0 6 X = some (nI 1, X)) : f_X7_takeVariable N r0 X = f_X7_takeVariable_j56 N r0 (-nI 2) X := by
  unfold f_X7_takeVariable
  rw [ho, n5, Option.bind_some, if_pos (show (nI 0, X).1 = 0 from rfl)]
  dsimp only
  rw [ho, y, Option.bind_some, if_neg (show ¬ (nI 1, X).1 = 0 from (by decide : ¬ nI 1 = (0 : Int32)))]
  rfl
theorem var_y2 {X : zH} (ho : ∀ {β : Type} {G : Option β}, onO 7 r0 X G = G) (n5 : f_X7_isWord N r0 5 X = some (nI 0, X)) (n6 : f_X7_isWord N r0 6 X = some (nI 0, X)) (y : f_X7_isWord N r0 7 X = some (nI 1, X)) : f_X7_takeVariable N r0 X = f_X7_takeVariable_j56 N r0 (-nI 3) X := by
  unfold f_X7_takeVariable
  rw [ho, n5, Option.bind_some, if_pos (show (nI 0, X).1 = 0 from rfl)]
  dsimp only
  rw [ho, n6, Option.bind_some, if_pos (show (nI 0, X).1 = 0 from rfl)]
  dsimp only
  rw [ho, y, Option.bind_some, if_neg (show ¬ (nI 1, X).1 = 0 from (by decide : ¬ nI 1 = (0 : Int32)))]
  rfl
theorem var_y3 {X : zH} (ho : ∀ {β : Type} {G : Option β}, onO 7 r0 X G = G) (n5 : f_X7_isWord N r0 5 X = some (nI 0, X)) (n6 : f_X7_isWord N r0 6 X = some (nI 0, X)) (n7 : f_X7_isWord N r0 7 X = some (nI 0, X)) (y : f_X7_isWord N r0 8 X = some (nI 1, X)) : f_X7_takeVariable N r0 X = f_X7_takeVariable_j56 N r0 (-nI 4) X := by
  unfold f_X7_takeVariable
  rw [ho, n5, Option.bind_some, if_pos (show (nI 0, X).1 = 0 from rfl)]
  dsimp only
  rw [ho, n6, Option.bind_some, if_pos (show (nI 0, X).1 = 0 from rfl)]
  dsimp only
  rw [ho, n7, Option.bind_some, if_pos (show (nI 0, X).1 = 0 from rfl)]
  dsimp only
  rw [ho, y, Option.bind_some, if_neg (show ¬ (nI 1, X).1 = 0 from (by decide : ¬ nI 1 = (0 : Int32)))]
  rfl
theorem var_n {X : zH} (ho : ∀ {β : Type} {G : Option β}, onO 7 r0 X G = G) (n5 : f_X7_isWord N r0 5 X = some (nI 0, X)) (n6 : f_X7_isWord N r0 6 X = some (nI 0, X)) (n7 : f_X7_isWord N r0 7 X = some (nI 0, X)) (n8 : f_X7_isWord N r0 8 X = some (nI 0, X)) : f_X7_takeVariable N r0 X = f_X7_takeVariable_j56 N r0 (nI 0) X := by
  unfold f_X7_takeVariable
  rw [ho, n5, Option.bind_some, if_pos (show (nI 0, X).1 = 0 from rfl)]
  dsimp only
  rw [ho, n6, Option.bind_some, if_pos (show (nI 0, X).1 = 0 from rfl)]
  dsimp only
  rw [ho, n7, Option.bind_some, if_pos (show (nI 0, X).1 = 0 from rfl)]
  dsimp only
  rw [ho, n8, Option.bind_some, if_pos (show (nI 0, X).1 = 0 from rfl)]
  dsimp only
  rfl
theorem var_c (hNN : 1000 < N) (hq : q ≤ len) (sq : skp b len q = q) (hT : TxtB B b len) (tk : TokAt V b len q) : (f_X7_takeVariable N r0 (rset h r0 g V B cz C) = f_X7_takeVariable_j56 N r0 (nI 0) (rset h r0 g V B cz C) ∧ ∀ w, w < 4 → ¬ wdAt b len q (5 + w)) ∨ ∃ (w : Nat) (c : Int32), c = -nI (w + 1) ∧ w < 4 ∧ wdAt b len q (5 + w) ∧ (∀ u, u < w → ¬ wdAt b len q (5 + u)) ∧ f_X7_takeVariable N r0 (rset h r0 g V B cz C) = f_X7_takeVariable_j56 N r0 c (rset h r0 g V B cz C) := by
  have y : ∀ i, i < 9 → wdAt b len q i → f_X7_isWord N r0 i (rset h r0 g V B cz C) = some (nI 1, rset h r0 g V B cz C) := fun i hi hw => x_isWord_y (by omega) hi hq hT tk (by rw [sq]; exact hw)
  have n : ∀ i, i < 9 → ¬ wdAt b len q i → f_X7_isWord N r0 i (rset h r0 g V B cz C) = some (nI 0, rset h r0 g V B cz C) := fun i hi hw => x_isWord_n (by omega) hi hq hT tk (by rw [sq]; exact hw)
  have ho : ∀ {β : Type} {G : Option β}, onO 7 r0 (rset h r0 g V B cz C) G = G := r_o7
  rcases Classical.em (wdAt b len q 5) with w5 | w5
  · exact Or.inr ⟨0, -nI 1, rfl, by omega, w5, fun u hu => absurd hu (Nat.not_lt_zero u), var_y0 ho (y 5 (by omega) w5)⟩
  · rcases Classical.em (wdAt b len q 6) with w6 | w6
    · exact Or.inr ⟨1, -nI 2, rfl, by omega, w6, fun u hu => by rw [show u = 0 by omega]; exact w5, var_y1 ho (n 5 (by omega) w5) (y 6 (by omega) w6)⟩
    · rcases Classical.em (wdAt b len q 7) with w7 | w7
      · refine Or.inr ⟨2, -nI 3, rfl, by omega, w7, fun u hu => ?_, var_y2 ho (n 5 (by omega) w5) (n 6 (by omega) w6) (y 7 (by omega) w7)⟩
        rcases (show u = 0 ∨ u = 1 by omega) with rfl | rfl
        · exact w5
        · exact w6
      · rcases Classical.em (wdAt b len q 8) with w8 | w8
        · refine Or.inr ⟨3, -nI 4, rfl, by omega, w8, fun u hu => ?_, var_y3 ho (n 5 (by omega) w5) (n 6 (by omega) w6) (n 7 (by omega) w7) (y 8 (by omega) w8)⟩
          rcases (show u = 0 ∨ u = 1 ∨ u = 2 by omega) with rfl | rfl | rfl
          · exact w5
          · exact w6
          · exact w7
        · refine Or.inl ⟨var_n ho (n 5 (by omega) w5) (n 6 (by omega) w6) (n 7 (by omega) w7) (n 8 (by omega) w8), fun w hw => ?_⟩
          rcases (show w = 0 ∨ w = 1 ∨ w = 2 ∨ w = 3 by omega) with rfl | rfl | rfl | rfl
          · exact w5
          · exact w6
          · exact w7
          · exact w8
end M99988

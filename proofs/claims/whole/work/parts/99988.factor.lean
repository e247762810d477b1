/-! ===== prices are parsed: a factor ===== -/
def PSt (b : Nat → Nat) (len : Nat) (V : Nat → Int32) (cz : Int32) (C S : Nat → Int32) (e t : Nat → Nat) (q K dep : Nat) : Prop := At b len V S q ∧ S 13 = nI dep ∧ cz = nI K ∧ (∀ k, k < K → C k = clsC (t k)) ∧ CdM e t K ∧ WFt t K
def Ok1 (V V' S S' : Nat → Int32) (e e' t t' : Nat → Nat) (q q' K K' hg : Nat) : Prop := q < q' ∧ V45 V V' ∧ SK S S' ∧ (∀ j, j < 178 → j ≠ 10 → e' j = e j) ∧ (∀ k, k < K → t' k = t k) ∧ K ≤ K' ∧ hgt t' K' = hgt t K + hg ∧ K' + q ≤ K + q' ∧ 2 * mPos t' K' + 3 * q ≤ 2 * mPos t K + 3 * q' + hg
def LSt (b : Nat → Nat) (len : Nat) (X : (Nat → Int32) → Int32 → (Nat → Int32) → zH) (Y : (Nat → Int32) → (Nat → Nat) → zH) (V S : Nat → Int32) (e t : Nat → Nat) (q K dep : Nat) (Fc : Option (Int32 × zH)) (Fm : Option zH) : Prop :=
  (∃ V' cz' C' S' e', Fc = some (nI 0, X V' cz' C') ∧ Fm = some (Y S' e') ∧ Fl V V' S S' cz') ∨
  (∃ V' cz' C' S' e' t' q' K', Fc = some (nI 1, X V' cz' C') ∧ Fm = some (Y S' e') ∧ PSt b len V' cz' C' S' e' t' q' K' dep ∧ Ok1 V V' S S' e e' t t' q q' K K' 1)
theorem wn_ne : ∀ w, w < 4 → ((-nI (w + 1) : Int32) = nI 0) = False := fun w hw => eq_false (by
  rcases (show w = 0 ∨ w = 1 ∨ w = 2 ∨ w = 3 by omega) with rfl | rfl | rfl | rfl <;> decide)
theorem clsC_v {w : Nat} : clsC (10000 + w) = -nI (w + 1) := by
  unfold clsC
  rw [if_neg (by omega), show 10000 + w - 9999 = w + 1 by omega]
theorem nm_le : ((nI 0 : Int32) ≤ -nI 1) = False := eq_false (by decide)
theorem hi_c {x : Nat} (hx : x < 2 ^ 30) : ∀ v, v < 2 ^ 30 → (nI v ≤ nI x) = (v < x + 1) := fun v hv => by
  rw [nle (by omega) (by omega)]
  exact propext ⟨fun h => by omega, fun h => by omega⟩
theorem hi_m {x : Nat} (hx : x < 2 ^ 30) : ∀ v, v < 2 ^ 30 → (nI x < nI v) = (x + 1 ≤ v) := fun v hv => by
  rw [nlt (by omega) (by omega)]
  rfl
section M99988
variable {r0 N : Nat}
theorem var_y0 {X : zH} (ho : ∀ {β : Type} {G : Option β}, onO 7 r0 X G = G) (y : f_X7_isWord N r0 5 X = some (nI 1, X)) : f_X7_takeVariable N r0 X = f_X7_takeVariable_j56 N r0 (-nI 1) X := by
  have e1 : (nI 1 = nI 0) = False := eq_false (by decide)
  simp only [f_X7_takeVariable, ho, y, e1, nlit, ↓reduceIte, Option.bind_some]
theorem var_y1 {X : zH} (ho : ∀ {β : Type} {G : Option β}, onO 7 r0 X G = G) (n5 : f_X7_isWord N r0 5 X = some (nI 0, X)) (y : f_X7_isWord N r0 6 X = some (nI 1, X)) : f_X7_takeVariable N r0 X = f_X7_takeVariable_j56 N r0 (-nI 2) X := by
  unfold f_X7_takeVariable
  rw [ho, n5, Option.bind_some, if_pos (show (nI 0, X).1 = 0 from rfl)]
  dsimp only
  rw [ho, y, Option.bind_some, if_neg (show ¬ (nI 1, X).1 = 0 from (by decide : ¬ nI 1 = (0 : Int32)))]
  rfl
theorem var_y2 {X : zH} (ho : ∀ {β : Type} {G : Option β}, onO 7 r0 X G = G) (n5 : f_X7_isWord N r0 5 X = some (nI 0, X)) (n6 : f_X7_isWord N r0 6 X = some (nI 0, X)) (y : f_X7_isWord N r0 7 X = some (nI 1, X)) : f_X7_takeVariable N r0 X = f_X7_takeVariable_j56 N r0 (-nI 3) X := by
  unfold f_X7_takeVariable
  rw [ho, n5, Option.bind_some, if_pos (show (nI 0, X).1 = 0 from rfl)]
  dsimp only
  rw [ho, n6, Option.bind_some, if_pos (show (nI 0, X).1 = 0 from rfl)]
  dsimp only
  rw [ho, y, Option.bind_some, if_neg (show ¬ (nI 1, X).1 = 0 from (by decide : ¬ nI 1 = (0 : Int32)))]
  rfl
theorem var_y3 {X : zH} (ho : ∀ {β : Type} {G : Option β}, onO 7 r0 X G = G) (n5 : f_X7_isWord N r0 5 X = some (nI 0, X)) (n6 : f_X7_isWord N r0 6 X = some (nI 0, X)) (n7 : f_X7_isWord N r0 7 X = some (nI 0, X)) (y : f_X7_isWord N r0 8 X = some (nI 1, X)) : f_X7_takeVariable N r0 X = f_X7_takeVariable_j56 N r0 (-nI 4) X := by
  unfold f_X7_takeVariable
  rw [ho, n5, Option.bind_some, if_pos (show (nI 0, X).1 = 0 from rfl)]
  dsimp only
  rw [ho, n6, Option.bind_some, if_pos (show (nI 0, X).1 = 0 from rfl)]
  dsimp only
  rw [ho, n7, Option.bind_some, if_pos (show (nI 0, X).1 = 0 from rfl)]
  dsimp only
  rw [ho, y, Option.bind_some, if_neg (show ¬ (nI 1, X).1 = 0 from (by decide : ¬ nI 1 = (0 : Int32)))]
  rfl
theorem var_n {X : zH} (ho : ∀ {β : Type} {G : Option β}, onO 7 r0 X G = G) (n5 : f_X7_isWord N r0 5 X = some (nI 0, X)) (n6 : f_X7_isWord N r0 6 X = some (nI 0, X)) (n7 : f_X7_isWord N r0 7 X = some (nI 0, X)) (n8 : f_X7_isWord N r0 8 X = some (nI 0, X)) : f_X7_takeVariable N r0 X = f_X7_takeVariable_j56 N r0 (nI 0) X := by
  unfold f_X7_takeVariable
  rw [ho, n5, Option.bind_some, if_pos (show (nI 0, X).1 = 0 from rfl)]
  dsimp only
  rw [ho, n6, Option.bind_some, if_pos (show (nI 0, X).1 = 0 from rfl)]
  dsimp only
  rw [ho, n7, Option.bind_some, if_pos (show (nI 0, X).1 = 0 from rfl)]
  dsimp only
  rw [ho, n8, Option.bind_some, if_pos (show (nI 0, X).1 = 0 from rfl)]
  dsimp only
  rfl
end M99988

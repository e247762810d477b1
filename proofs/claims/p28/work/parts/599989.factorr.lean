def O7h (r : Nat) (X : zH) : Prop := ∀ (β : Type) (G : Option β), onO 7 r X G = G
def O9h (m : Nat) (X : zH) : Prop := ∀ (β : Type) (G : Option β), onO 9 m X G = G
section M99989a
variable {N r m d p : Nat} {X Y Z T : zH} {v : Int32} {rc : Nat → Int32 → zH → Option (Int32 × zH)} {rm : Nat → zH → Option zH}
theorem i1ne : ¬ (nI 1 : Int32) = (0 : Int32) := by decide
theorem cf_deep (o : O7h r X) (s : f_X7_isSign N r (nI 40) X = some (nI 1, X)) (hd : d = 4) (g5 : gI X r 7 5 = some v) (f : f_X7_fail N r (-nI 5) v X = some (nI 0, Y)) : f_X7_takeFactor N rc r (nI d) X = some (nI 0, Y) := by
  subst hd
  unfold f_X7_takeFactor
  rw [o, show (40 : Int32) = nI 40 from rfl, s, Option.bind_some, if_neg (show ¬ (nI 1, X).1 = 0 from i1ne), if_neg (show ¬ nI 4 < (4 : Int32) from by decide)]
  dsimp only
  rw [g5, Option.bind_some, o, show (-5 : Int32) = -nI 5 from rfl, f, Option.bind_some]
  rfl
theorem cf_par0 (o : O7h r X) (oy : O7h r Y) (s : f_X7_isSign N r (nI 40) X = some (nI 1, X)) (hd : d < 4) (a : f_X7_advance N r X = some Y) (c : rc r (nI (d + 1)) Y = some (nI 0, Z)) : f_X7_takeFactor N rc r (nI d) X = some (nI 0, Z) := by
  unfold f_X7_takeFactor
  rw [o, show (40 : Int32) = nI 40 from rfl, s, Option.bind_some, if_neg (show ¬ (nI 1, X).1 = 0 from i1ne), if_pos (show nI d < (4 : Int32) from of_eq_true (nltT (a := d) (b := 4) (by omega) hd))]
  dsimp only
  rw [o, a, Option.bind_some, oy, show nI d + (1 : Int32) = nI (d + 1) from nadd d 1, c, Option.bind_some, if_pos (show (nI 0, Z).1 = 0 from rfl)]
  rfl
theorem cf_par1 (o : O7h r X) (oy : O7h r Y) (oz : O7h r Z) (s : f_X7_isSign N r (nI 40) X = some (nI 1, X)) (hd : d < 4) (a : f_X7_advance N r X = some Y) (c : rc r (nI (d + 1)) Y = some (nI 1, Z)) (hv : v = nI 0 ∨ v = nI 1) (t : f_X7_takeSign N r (nI 41) Z = some (v, T)) : f_X7_takeFactor N rc r (nI d) X = some (v, T) := by
  unfold f_X7_takeFactor
  rw [o, show (40 : Int32) = nI 40 from rfl, s, Option.bind_some, if_neg (show ¬ (nI 1, X).1 = 0 from i1ne), if_pos (show nI d < (4 : Int32) from of_eq_true (nltT (a := d) (b := 4) (by omega) hd))]
  dsimp only
  rw [o, a, Option.bind_some, oy, show nI d + (1 : Int32) = nI (d + 1) from nadd d 1, c, Option.bind_some, if_neg (show ¬ (nI 1, Z).1 = 0 from i1ne)]
  dsimp only
  rw [oz, show (41 : Int32) = nI 41 from rfl, t, Option.bind_some]
  rcases hv with rfl | rfl
  · rw [if_pos (show (nI 0, T).1 = 0 from rfl)]
    rfl
  · rw [if_neg (show ¬ (nI 1, T).1 = 0 from i1ne)]
    rfl
/-- no bracket -/
theorem cf_word (o : O7h r X) (s : f_X7_isSign N r (nI 40) X = some (nI 0, X)) (g4 : gI X r 7 4 = some (nI 2)) (hv : v = nI 0 ∨ v = nI 1) (t : f_X7_takeVariable N r X = some (v, Y)) : f_X7_takeFactor N rc r (nI d) X = some (v, Y) := by
  unfold f_X7_takeFactor
  rw [o, show (40 : Int32) = nI 40 from rfl, s, Option.bind_some, if_pos (show (nI 0, X).1 = 0 from rfl)]
  dsimp only
  rw [g4, Option.bind_some, if_pos (show nI 2 = (2 : Int32) from rfl), o, t, Option.bind_some]
  dsimp only
  rcases hv with rfl | rfl
  · rw [zB_0', Option.bind_some]
  · rw [zB_1', Option.bind_some]
theorem cf_num0 {k : Int32} (o : O7h r X) (s : f_X7_isSign N r (nI 40) X = some (nI 0, X)) (g4 : gI X r 7 4 = some k) (hk : ¬ k = nI 2) (t : f_X7_takeNumber N r (nI 0) (nI 9999) X = some (nI 0, Y)) : f_X7_takeFactor N rc r (nI d) X = some (nI 0, Y) := by
  unfold f_X7_takeFactor
  rw [o, show (40 : Int32) = nI 40 from rfl, s, Option.bind_some, if_pos (show (nI 0, X).1 = 0 from rfl)]
  dsimp only
  rw [g4, Option.bind_some, if_neg (show ¬ k = (2 : Int32) from hk), o, show (0 : Int32) = nI 0 from rfl, show (9999 : Int32) = nI 9999 from nlit 9999, t, Option.bind_some, if_pos (show (nI 0, Y).1 = nI 0 from rfl)]
theorem cf_num1 {k w : Int32} {rw' : Nat} (o : O7h r X) (s : f_X7_isSign N r (nI 40) X = some (nI 0, X)) (g4 : gI X r 7 4 = some k) (hk : ¬ k = nI 2) (t : f_X7_takeNumber N r (nI 0) (nI 9999) X = some (nI 1, Y)) (ga : gA Y r 7 10 = some rw') (g8 : gI Y r 7 8 = some w) (o6 : ∀ (β : Type) (G : Option β), onO 6 rw' Y G = G) (ps : f_X6_push N rw' w Y = some Z) : f_X7_takeFactor N rc r (nI d) X = some (nI 1, Z) := by
  unfold f_X7_takeFactor
  rw [o, show (40 : Int32) = nI 40 from rfl, s, Option.bind_some, if_pos (show (nI 0, X).1 = 0 from rfl)]
  dsimp only
  rw [g4, Option.bind_some, if_neg (show ¬ k = (2 : Int32) from hk), o, show (0 : Int32) = nI 0 from rfl, show (9999 : Int32) = nI 9999 from nlit 9999, t, Option.bind_some, if_neg (show ¬ (nI 1, Y).1 = nI 0 from i1ne)]
  dsimp only
  rw [ga, Option.bind_some, g8, Option.bind_some, o6, ps, Option.bind_some]
  rfl
theorem cv_n (o : O7h r X) (g5 : gI X r 7 5 = some v) (f : f_X7_fail N r (-nI 2) v X = some (nI 0, Y)) : f_X7_takeVariable_j56 N r (nI 0) X = some (nI 0, Y) := by
  unfold f_X7_takeVariable_j56
  rw [if_pos (show nI 0 = (0 : Int32) from rfl), g5, Option.bind_some, o, show (-2 : Int32) = -nI 2 from rfl, f, Option.bind_some]
  rfl
theorem cv_y {k : Int32} {rw' : Nat} (hk : ¬ k = nI 0) (ga : gA X r 7 10 = some rw') (o6 : ∀ (β : Type) (G : Option β), onO 6 rw' X G = G) (ps : f_X6_push N rw' k X = some Y) (oy : O7h r Y) (a : f_X7_advance N r Y = some Z) : f_X7_takeVariable_j56 N r k X = some (nI 1, Z) := by
  unfold f_X7_takeVariable_j56
  rw [if_neg (show ¬ k = (0 : Int32) from hk), ga, Option.bind_some, o6, ps, Option.bind_some, oy, a, Option.bind_some]
  rfl
end M99989a

def Ok0 (V V' S S' : Nat → Int32) (e e' t t' : Nat → Nat) (q q' K K' : Nat) : Prop := q ≤ q' ∧ V45 V V' ∧ SK S S' ∧ (∀ j, j < 178 → j ≠ 10 → e' j = e j) ∧ (∀ k, k < K → t' k = t k) ∧ K ≤ K' ∧ hgt t' K' = hgt t K ∧ K' + q ≤ K + q' ∧ 2 * mPos t' K' + 3 * q ≤ 2 * mPos t K + 3 * q'
def LS0 (b : Nat → Nat) (len : Nat) (X : (Nat → Int32) → Int32 → (Nat → Int32) → zH) (Y : (Nat → Int32) → (Nat → Nat) → zH) (V S : Nat → Int32) (e t : Nat → Nat) (q K dep : Nat) (Fc : Option (Int32 × zH)) (Fm : Option zH) : Prop :=
  (∃ V' cz' C' S' e', Fc = some (nI 0, X V' cz' C') ∧ Fm = some (Y S' e') ∧ Fl V V' S S' cz') ∨
  (∃ V' cz' C' S' e' t' q' K', Fc = some (nI 1, X V' cz' C') ∧ Fm = some (Y S' e') ∧ PSt b len V' cz' C' S' e' t' q' K' dep ∧ Ok0 V V' S S' e e' t t' q q' K K')
theorem V45_rf (V : Nat → Int32) : V45 V V := fun _ _ _ _ _ _ => rfl
theorem Ok0_tr {V V1 V2 S S1 S2 : Nat → Int32} {e e1 e2 t t1 t2 : Nat → Nat} {q q1 q2 K K1 K2 : Nat} (h1 : Ok0 V V1 S S1 e e1 t t1 q q1 K K1) (h2 : Ok0 V1 V2 S1 S2 e1 e2 t1 t2 q1 q2 K1 K2) : Ok0 V V2 S S2 e e2 t t2 q q2 K K2 := by
  obtain ⟨a1, a2, a3, a4, a5, a6, a7, a8, a9⟩ := h1
  obtain ⟨b1, b2', b3, b4, b5, b6, b7, b8, b9⟩ := h2
  exact ⟨by omega, V45_tr a2 b2', SK_tr a3 b3, fun j j1 j2 => (b4 j j1 j2).trans (a4 j j1 j2), fun k hk => (b5 k (by omega)).trans (a5 k hk), by omega, by omega, by omega, by omega⟩
theorem Ok1_0 {V V1 V2 S S1 S2 : Nat → Int32} {e e1 e2 t t1 t2 : Nat → Nat} {q q1 q2 K K1 K2 : Nat} (h1 : Ok1 V V1 S S1 e e1 t t1 q q1 K K1 1) (h2 : Ok0 V1 V2 S1 S2 e1 e2 t1 t2 q1 q2 K1 K2) : Ok1 V V2 S S2 e e2 t t2 q q2 K K2 1 := by
  obtain ⟨a1, a2, a3, a4, a5, a6, a7, a8, a9⟩ := h1
  obtain ⟨b1, b2', b3, b4, b5, b6, b7, b8, b9⟩ := h2
  exact ⟨by omega, V45_tr a2 b2', SK_tr a3 b3, fun j j1 j2 => (b4 j j1 j2).trans (a4 j j1 j2), fun k hk => (b5 k (by omega)).trans (a5 k hk), by omega, by omega, by omega, by omega⟩
theorem Ok0_S4 {V S : Nat → Int32} {e t : Nat → Nat} {q K : Nat} {x : Int32} : Ok0 V V S (upd S 4 x) e e t t q q K K := ⟨Nat.le_refl _, V45_rf _, SK_4, fun _ _ _ => rfl, fun _ _ => rfl, Nat.le_refl _, rfl, Nat.le_refl _, Nat.le_refl _⟩
theorem LS1_0 {b : Nat → Nat} {len : Nat} {X : (Nat → Int32) → Int32 → (Nat → Int32) → zH} {Y : (Nat → Int32) → (Nat → Nat) → zH} {V V1 S S1 : Nat → Int32} {e e1 t t1 : Nat → Nat} {q q1 K K1 dep : Nat} {Fc : Option (Int32 × zH)} {Fm : Option zH} (h1 : Ok1 V V1 S S1 e e1 t t1 q q1 K K1 1) (h2 : LS0 b len X Y V1 S1 e1 t1 q1 K1 dep Fc Fm) : LSt b len X Y V S e t q K dep Fc Fm := by
  rcases h2 with ⟨V', cz', C', S', e', a1, a2, a3⟩ | ⟨V', cz', C', S', e', t', q', K', a1, a2, a3, a4⟩
  · exact Or.inl ⟨V', cz', C', S', e', a1, a2, Fl_tr (V45_VK h1.2.1) (SK_3 h1.2.2.1) a3⟩
  · exact Or.inr ⟨V', cz', C', S', e', t', q', K', a1, a2, a3, Ok1_0 h1 a4⟩
theorem LS0_0 {b : Nat → Nat} {len : Nat} {X : (Nat → Int32) → Int32 → (Nat → Int32) → zH} {Y : (Nat → Int32) → (Nat → Nat) → zH} {V V1 S S1 : Nat → Int32} {e e1 t t1 : Nat → Nat} {q q1 K K1 dep : Nat} {Fc : Option (Int32 × zH)} {Fm : Option zH} (h1 : Ok0 V V1 S S1 e e1 t t1 q q1 K K1) (h2 : LS0 b len X Y V1 S1 e1 t1 q1 K1 dep Fc Fm) : LS0 b len X Y V S e t q K dep Fc Fm := by
  rcases h2 with ⟨V', cz', C', S', e', a1, a2, a3⟩ | ⟨V', cz', C', S', e', t', q', K', a1, a2, a3, a4⟩
  · exact Or.inl ⟨V', cz', C', S', e', a1, a2, Fl_tr (V45_VK h1.2.1) (SK_3 h1.2.2.1) a3⟩
  · exact Or.inr ⟨V', cz', C', S', e', t', q', K', a1, a2, a3, Ok0_tr h1 a4⟩
theorem clsC_ge {c : Nat} (h : 10000 ≤ c) : clsC c = -nI (c - 9999) := by
  unfold clsC
  rw [if_neg (by omega)]
theorem tkE_sg {b : Nat → Nat} {len q c : Nat} (hs : sgAt b len q c) (hc : isDg c = false ∧ isLt c = false) : tkE b len q = q + 1 := by
  unfold tkE
  rw [if_neg (by have := hs.1; omega), hs.2, hc.1, hc.2]
  rfl
/-- an operator told -/
theorem PSt_op {b : Nat → Nat} {len : Nat} {V C S : Nat → Int32} {cz : Int32} {e t : Nat → Nat} {q K dep c : Nat} (hP : PSt b len V cz C S e t q K dep) (h1 : 10004 ≤ c) (h2 : c ≤ 10007) (h3 : 2 ≤ hgt t K) : PSt b len V (nI (K + 1)) (upd C K (-nI (c - 9999))) S (upN (upN e (178 + mPos t K) (c - 10002)) 10 (mPos t K + 1)) (upN t K c) q (K + 1) dep := by
  obtain ⟨hA, s13, hcz, hC, hM, hW⟩ := hP
  refine ⟨hA, s13, rfl, fun k hk => ?_, CdM_op hM h1, WFt_push hW h2 (fun _ => h3) (fun h9 => absurd h9 (by omega))⟩
  by_cases hkK : k = K
  · subst hkK
    rw [upS_eq, upN_eq, clsC_ge (by omega)]
  · rw [upS_ne hkK, upN_ne hkK]
    exact hC k (by omega)
theorem Ok0_op {V V1 V2 S S1 S2 : Nat → Int32} {e e2 t t2 : Nat → Nat} {q q1 q2 K K2 c : Nat} (hq : q + 1 ≤ q1) (hV : V45 V V1) (hS : SK S S1) (h2 : Ok1 V1 V2 S1 S2 e e2 t t2 q1 q2 K K2 1) (hc : 10004 ≤ c) : Ok0 V V2 S S2 e (upN (upN e2 (178 + mPos t2 K2) (c - 10002)) 10 (mPos t2 K2 + 1)) t (upN t2 K2 c) q q2 K (K2 + 1) := by
  obtain ⟨b1, b2', b3, b4, b5, b6, b7, b8, b9⟩ := h2
  have m1 := mPos_congr (t := t2) (t' := upN t2 K2 c) K2 (fun j hj => upN_lt j hj)
  have h1 := hgt_congr (t := t2) (t' := upN t2 K2 c) K2 (fun j hj => upN_lt j hj)
  have m2 := mPos_op (t := upN t2 K2 c) (k := K2) (by rw [upN_eq]; exact hc)
  have h2 := hgt_op (t := upN t2 K2 c) (k := K2) (by rw [upN_eq]; exact hc)
  refine ⟨by omega, V45_tr hV b2', SK_tr hS b3, fun j j1 j2 => ?_, fun k hk => ?_, by omega, by omega, by omega, by omega⟩
  · rw [upN_ne j2, upN_ne (by omega)]
    exact b4 j j1 j2
  · rw [upN_ne (by omega)]
    exact b5 k hk
theorem Fl_cz {V V' S S' : Nat → Int32} {cz cz' : Int32} (hF : Fl V V' S S' cz) {K : Nat} (hK : K ≤ 700) (hz : cz' = nI K) : Fl V V' S S' cz' := by
  obtain ⟨a, b, c, d, e, f⟩ := hF
  exact ⟨a, b, c, d, e, K, hK, hz⟩
theorem i10 : ¬ (nI 1 : Int32) = 0 := by decide
section M99991a
variable {N r m n i : Nat} {X Y Z T : zH} {v v1 : Int32} {rc : Nat → Int32 → zH → Option (Int32 × zH)} {rm : Nat → zH → Option zH}
theorem tt_c0 : f_X7_takeTerm_l8 N rc r v1 (n + 1) (nI 0) v X = some (nI 0, X) := by
  rw [f_X7_takeTerm_l8]
  by_cases h7 : (700 : Int32) ≤ v
  · rw [if_pos h7, zB_0']
    rfl
  · rw [if_neg h7, if_pos (show nI 0 = (0 : Int32) from rfl), zB_0']
    rfl
theorem tt_cn (o : O7h r X) (hi : i < 700) (s1 : f_X7_isSign N r (nI 42) X = some (nI 0, X)) (s2 : f_X7_isSign N r (nI 47) X = some (nI 0, X)) : f_X7_takeTerm_l8 N rc r v1 (n + 1) (nI 1) (nI i) X = some (nI 1, X) := by
  rw [f_X7_takeTerm_l8, if_neg (show ¬ (700 : Int32) ≤ nI i from of_eq_false (nleF (a := 700) (b := i) (by omega) hi)), if_neg i10, o, show (42 : Int32) = nI 42 from rfl, s1, Option.bind_some]
  dsimp only [zjn]
  rw [if_pos (show nI 0 = (0 : Int32) from rfl), o, show (47 : Int32) = nI 47 from rfl, s2, Option.bind_some]
  dsimp only
  rw [if_pos (show nI 0 = (0 : Int32) from rfl), zB_1']
  rfl
theorem tt_c1 {rq : Nat} (o : O7h r X) (oy : O7h r Y) (hi : i < 700) (s : f_X7_isSign N r (nI 42) X = some (nI 1, X)) (a : f_X7_advance N r X = some Y) (f : f_X7_takeFactor N rc r v1 Y = some (v, Z)) (ga : gA Z r 7 10 = some rq) (o6 : ∀ (β : Type) (G : Option β), onO 6 rq Z G = G) (ps : f_X6_push N rq (-nI 7) Z = some T) : f_X7_takeTerm_l8 N rc r v1 (n + 1) (nI 1) (nI i) X = f_X7_takeTerm_l8 N rc r v1 n v (nI (i + 1)) T := by
  rw [f_X7_takeTerm_l8, if_neg (show ¬ (700 : Int32) ≤ nI i from of_eq_false (nleF (a := 700) (b := i) (by omega) hi)), if_neg i10, o, show (42 : Int32) = nI 42 from rfl, s, Option.bind_some]
  dsimp only [zjn]
  rw [if_neg i10, o, s, Option.bind_some]
  dsimp only
  rw [if_neg i10, o, a, Option.bind_some, oy, f, Option.bind_some]
  dsimp only
  rw [ga, Option.bind_some, o6, show (-7 : Int32) = -nI 7 from rfl, ps, Option.bind_some, show nI i + (1 : Int32) = nI (i + 1) from nadd i 1]
theorem tt_c2 {rq : Nat} (o : O7h r X) (oy : O7h r Y) (hi : i < 700) (s1 : f_X7_isSign N r (nI 42) X = some (nI 0, X)) (s : f_X7_isSign N r (nI 47) X = some (nI 1, X)) (a : f_X7_advance N r X = some Y) (f : f_X7_takeFactor N rc r v1 Y = some (v, Z)) (ga : gA Z r 7 10 = some rq) (o6 : ∀ (β : Type) (G : Option β), onO 6 rq Z G = G) (ps : f_X6_push N rq (-nI 8) Z = some T) : f_X7_takeTerm_l8 N rc r v1 (n + 1) (nI 1) (nI i) X = f_X7_takeTerm_l8 N rc r v1 n v (nI (i + 1)) T := by
  rw [f_X7_takeTerm_l8, if_neg (show ¬ (700 : Int32) ≤ nI i from of_eq_false (nleF (a := 700) (b := i) (by omega) hi)), if_neg i10, o, show (42 : Int32) = nI 42 from rfl, s1, Option.bind_some]
  dsimp only [zjn]
  rw [if_pos (show nI 0 = (0 : Int32) from rfl), o, show (47 : Int32) = nI 47 from rfl, s, Option.bind_some]
  dsimp only
  rw [if_neg i10, o, s1, Option.bind_some]
  dsimp only
  rw [if_pos (show nI 0 = (0 : Int32) from rfl), o, a, Option.bind_some, oy, f, Option.bind_some]
  dsimp only
  rw [ga, Option.bind_some, o6, show (-8 : Int32) = -nI 8 from rfl, ps, Option.bind_some, show nI i + (1 : Int32) = nI (i + 1) from nadd i 1]
theorem ts_c0 : f_X7_takeSum_l8 N rc r v1 (n + 1) (nI 0) v X = some (nI 0, X) := by
  rw [f_X7_takeSum_l8]
  by_cases h7 : (700 : Int32) ≤ v
  · rw [if_pos h7, zB_0']
    rfl
  · rw [if_neg h7, if_pos (show nI 0 = (0 : Int32) from rfl), zB_0']
    rfl
theorem ts_cn (o : O7h r X) (hi : i < 700) (s1 : f_X7_isSign N r (nI 43) X = some (nI 0, X)) (s2 : f_X7_isSign N r (nI 45) X = some (nI 0, X)) : f_X7_takeSum_l8 N rc r v1 (n + 1) (nI 1) (nI i) X = some (nI 1, X) := by
  rw [f_X7_takeSum_l8, if_neg (show ¬ (700 : Int32) ≤ nI i from of_eq_false (nleF (a := 700) (b := i) (by omega) hi)), if_neg i10, o, show (43 : Int32) = nI 43 from rfl, s1, Option.bind_some]
  dsimp only [zjn]
  rw [if_pos (show nI 0 = (0 : Int32) from rfl), o, show (45 : Int32) = nI 45 from rfl, s2, Option.bind_some]
  dsimp only
  rw [if_pos (show nI 0 = (0 : Int32) from rfl), zB_1']
  rfl
theorem ts_c1 {rq : Nat} (o : O7h r X) (oy : O7h r Y) (hi : i < 700) (s : f_X7_isSign N r (nI 43) X = some (nI 1, X)) (a : f_X7_advance N r X = some Y) (f : f_X7_takeTerm N rc r v1 Y = some (v, Z)) (ga : gA Z r 7 10 = some rq) (o6 : ∀ (β : Type) (G : Option β), onO 6 rq Z G = G) (ps : f_X6_push N rq (-nI 5) Z = some T) : f_X7_takeSum_l8 N rc r v1 (n + 1) (nI 1) (nI i) X = f_X7_takeSum_l8 N rc r v1 n v (nI (i + 1)) T := by
  rw [f_X7_takeSum_l8, if_neg (show ¬ (700 : Int32) ≤ nI i from of_eq_false (nleF (a := 700) (b := i) (by omega) hi)), if_neg i10, o, show (43 : Int32) = nI 43 from rfl, s, Option.bind_some]
  dsimp only [zjn]
  rw [if_neg i10, o, s, Option.bind_some]
  dsimp only
  rw [if_neg i10, o, a, Option.bind_some, oy, f, Option.bind_some]
  dsimp only
  rw [ga, Option.bind_some, o6, show (-5 : Int32) = -nI 5 from rfl, ps, Option.bind_some, show nI i + (1 : Int32) = nI (i + 1) from nadd i 1]
theorem ts_c2 {rq : Nat} (o : O7h r X) (oy : O7h r Y) (hi : i < 700) (s1 : f_X7_isSign N r (nI 43) X = some (nI 0, X)) (s : f_X7_isSign N r (nI 45) X = some (nI 1, X)) (a : f_X7_advance N r X = some Y) (f : f_X7_takeTerm N rc r v1 Y = some (v, Z)) (ga : gA Z r 7 10 = some rq) (o6 : ∀ (β : Type) (G : Option β), onO 6 rq Z G = G) (ps : f_X6_push N rq (-nI 6) Z = some T) : f_X7_takeSum_l8 N rc r v1 (n + 1) (nI 1) (nI i) X = f_X7_takeSum_l8 N rc r v1 n v (nI (i + 1)) T := by
  rw [f_X7_takeSum_l8, if_neg (show ¬ (700 : Int32) ≤ nI i from of_eq_false (nleF (a := 700) (b := i) (by omega) hi)), if_neg i10, o, show (43 : Int32) = nI 43 from rfl, s1, Option.bind_some]
  dsimp only [zjn]
  rw [if_pos (show nI 0 = (0 : Int32) from rfl), o, show (45 : Int32) = nI 45 from rfl, s, Option.bind_some]
  dsimp only
  rw [if_neg i10, o, s1, Option.bind_some]
  dsimp only
  rw [if_pos (show nI 0 = (0 : Int32) from rfl), o, a, Option.bind_some, oy, f, Option.bind_some]
  dsimp only
  rw [ga, Option.bind_some, o6, show (-6 : Int32) = -nI 6 from rfl, ps, Option.bind_some, show nI i + (1 : Int32) = nI (i + 1) from nadd i 1]
end M99991a

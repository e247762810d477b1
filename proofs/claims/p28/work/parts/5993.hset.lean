def hcl (q g : Nat) (x y : Int32) (C : Nat → Int32) (τ : Nat → Int64) (z : Int32) (F : Nat → Int32) : Nat → Option zE
  | 0 => some (.inr (3, [.ref g, .ref (q + 1), .ref (q + 2), .ref (q + 3), .int x, .int y]))
  | 1 => some (.inl (0, 960, .inl C))
  | 2 => some (.inl (1, 514, .inr (.inl τ)))
  | 3 => some (.inr (6, [.ref (q + 4), .int z]))
  | 4 => some (.inl (0, 120, .inl F))
  | _ => none
def hset (h : zH) (q g : Nat) (x y : Int32) (C : Nat → Int32) (τ : Nat → Int64) (z : Int32) (F : Nat → Int32) : zH := rs h q 5 (hcl q g x y C τ z F)
section M993
variable {h : zH} {q g N : Nat} {x y z : Int32} {C F : Nat → Int32} {τ : Nat → Int64}
theorem hs_0 : hM (hset h q g x y C τ z F) q = some (.inr (3, [.ref g, .ref (q + 1), .ref (q + 2), .ref (q + 3), .int x, .int y])) := rs_in (h := h) (a := q) (len := 5) (j := 0) (c := hcl q g x y C τ z F) (by omega) rfl
theorem hs_1 : hM (hset h q g x y C τ z F) (q + 1) = some (.inl (0, 960, .inl C)) := rs_in (h := h) (a := q) (len := 5) (j := 1) (c := hcl q g x y C τ z F) (by omega) rfl
theorem hs_2 : hM (hset h q g x y C τ z F) (q + 2) = some (.inl (1, 514, .inr (.inl τ))) := rs_in (h := h) (a := q) (len := 5) (j := 2) (c := hcl q g x y C τ z F) (by omega) rfl
theorem hs_3 : hM (hset h q g x y C τ z F) (q + 3) = some (.inr (6, [.ref (q + 4), .int z])) := rs_in (h := h) (a := q) (len := 5) (j := 3) (c := hcl q g x y C τ z F) (by omega) rfl
theorem hs_4 : hM (hset h q g x y C τ z F) (q + 4) = some (.inl (0, 120, .inl F)) := rs_in (h := h) (a := q) (len := 5) (j := 4) (c := hcl q g x y C τ z F) (by omega) rfl
theorem j5 {j : Nat} (hj : j < 5) : j = 0 ∨ j = 1 ∨ j = 2 ∨ j = 3 ∨ j = 4 := by omega
theorem hput_0 {x' y' : Int32} : hPut (hset h q g x y C τ z F) q (.inr (3, [.ref g, .ref (q + 1), .ref (q + 2), .ref (q + 3), .int x', .int y'])) = hset h q g x' y' C τ z F := (rs_put (h := h) (a := q) (len := 5) (j := 0) (c := hcl q g x y C τ z F) (by omega)).trans (rs_ext fun j hj => by rcases j5 hj with rfl | rfl | rfl | rfl | rfl <;> rfl)
theorem hput_1 {C' : Nat → Int32} : hPut (hset h q g x y C τ z F) (q + 1) (.inl (0, 960, .inl C')) = hset h q g x y C' τ z F := (rs_put (h := h) (a := q) (len := 5) (j := 1) (c := hcl q g x y C τ z F) (by omega)).trans (rs_ext fun j hj => by rcases j5 hj with rfl | rfl | rfl | rfl | rfl <;> rfl)
theorem hput_2 {τ' : Nat → Int64} : hPut (hset h q g x y C τ z F) (q + 2) (.inl (1, 514, .inr (.inl τ'))) = hset h q g x y C τ' z F := (rs_put (h := h) (a := q) (len := 5) (j := 2) (c := hcl q g x y C τ z F) (by omega)).trans (rs_ext fun j hj => by rcases j5 hj with rfl | rfl | rfl | rfl | rfl <;> rfl)
theorem hput_3 {z' : Int32} : hPut (hset h q g x y C τ z F) (q + 3) (.inr (6, [.ref (q + 4), .int z'])) = hset h q g x y C τ z' F := (rs_put (h := h) (a := q) (len := 5) (j := 3) (c := hcl q g x y C τ z F) (by omega)).trans (rs_ext fun j hj => by rcases j5 hj with rfl | rfl | rfl | rfl | rfl <;> rfl)
theorem hput_4 {F' : Nat → Int32} : hPut (hset h q g x y C τ z F) (q + 4) (.inl (0, 120, .inl F')) = hset h q g x y C τ z F' := (rs_put (h := h) (a := q) (len := 5) (j := 4) (c := hcl q g x y C τ z F) (by omega)).trans (rs_ext fun j hj => by rcases j5 hj with rfl | rfl | rfl | rfl | rfl <;> rfl)
theorem hs_g : gA (hset h q g x y C τ z F) q 3 0 = some g ∧ gA (hset h q g x y C τ z F) q 3 1 = some (q + 1) ∧ gA (hset h q g x y C τ z F) q 3 2 = some (q + 2) ∧ gA (hset h q g x y C τ z F) q 3 3 = some (q + 3) ∧ gI (hset h q g x y C τ z F) q 3 4 = some x ∧ gI (hset h q g x y C τ z F) q 3 5 = some y ∧ gA (hset h q g x y C τ z F) (q + 3) 6 0 = some (q + 4) ∧ gI (hset h q g x y C τ z F) (q + 3) 6 1 = some z := ⟨gA_of' hs_0 rfl, gA_of' hs_0 rfl, gA_of' hs_0 rfl, gA_of' hs_0 rfl, gI_of' hs_0 rfl, gI_of' hs_0 rfl, gA_of' hs_3 rfl, gI_of' hs_3 rfl⟩
theorem hs_p4 {x' : Int32} : pF (hset h q g x y C τ z F) q 3 4 (.int x') = some (hset h q g x' y C τ z F) := (pF_of' hs_0 (by show 4 < 6; omega)).trans (congrArg some hput_0)
theorem hs_p5 {y' : Int32} : pF (hset h q g x y C τ z F) q 3 5 (.int y') = some (hset h q g x y' C τ z F) := (pF_of' hs_0 (by show 5 < 6; omega)).trans (congrArg some hput_0)
theorem hs_pz {z' : Int32} : pF (hset h q g x y C τ z F) (q + 3) 6 1 (.int z') = some (hset h q g x y C τ z' F) := (pF_of' hs_3 (by show 1 < 2; omega)).trans (congrArg some hput_3)
theorem hs_ldC {i : Nat} (hi : i < 960) : ldI (hset h q g x y C τ z F) (q + 1) (nI i) = some (C i) := ldI_of' hs_1 hi (by omega)
theorem hs_stC {i : Nat} {v : Int32} (hi : i < 960) : stI (hset h q g x y C τ z F) (q + 1) (nI i) v = some (hset h q g x y (upd C i v) τ z F) := (stI_of' hs_1 hi (by omega)).trans (congrArg some hput_1)
theorem hs_ldT {i : Nat} (hi : i < 514) : ldJ (hset h q g x y C τ z F) (q + 2) (nI i) = some (τ i) := ldJ_of' hs_2 hi (by omega)
theorem hs_stT {i : Nat} {v : Int64} (hi : i < 514) : stJ (hset h q g x y C τ z F) (q + 2) (nI i) v = some (hset h q g x y C (vp_updL τ i v) z F) := (stJ_of' hs_2 hi (by omega)).trans (congrArg some hput_2)
theorem hs_ldF {i : Nat} (hi : i < 120) : ldI (hset h q g x y C τ z F) (q + 4) (nI i) = some (F i) := ldI_of' hs_4 hi (by omega)
theorem hs_stF {i : Nat} {v : Int32} (hi : i < 120) : stI (hset h q g x y C τ z F) (q + 4) (nI i) v = some (hset h q g x y C τ z (upd F i v)) := (stI_of' hs_4 hi (by omega)).trans (congrArg some hput_4)
theorem hs_lenT : aLen (hset h q g x y C τ z F) (q + 2) = some (nI 514) := aLen_of' hs_2 (by omega)
theorem hs_lenF : aLen (hset h q g x y C τ z F) (q + 4) = some (nI 120) := aLen_of' hs_4 (by omega)
theorem hs_o3 {β : Type} {G : Option β} : onO 3 q (hset h q g x y C τ z F) G = G := onO_of' hs_0
theorem hs_o6 {β : Type} {G : Option β} : onO 6 (q + 3) (hset h q g x y C τ z F) G = G := onO_of' hs_3
def AT (τ : Nat → Int64) (m e : Nat) : Bool := (wx (τ (2 * m + e / 64))).testBit (e % 64)
def incT (τ : Nat → Int64) (m e : Nat) : Nat → Int64 := vp_updL τ (2 * m + e / 64) (τ (2 * m + e / 64) ||| pw (e % 64))
theorem AT_inc {m e m' e' : Nat} (he : e < 128) (he' : e' < 128) : AT (incT τ m e) m' e' = true ↔ AT τ m' e' = true ∨ (m' = m ∧ e' = e) := by
  unfold AT incT
  by_cases hi : 2 * m' + e' / 64 = 2 * m + e / 64
  · rw [hi, updL_eq, set64 (Nat.mod_lt _ (by omega))]
    have hm : m' = m := by omega
    rw [Bool.or_eq_true, decide_eq_true_eq]
    have : (e % 64 = e' % 64) ↔ (m' = m ∧ e' = e) := by omega
    rw [this]
  · rw [updL_ne hi]
    constructor
    · exact Or.inl
    · rintro (h1 | ⟨rfl, rfl⟩)
      · exact h1
      · exact absurd rfl hi
theorem x_room {m e : Nat} {k : zH} (hm : m ≤ 256) (he : e < 120) : f_X3_hasRoomFor N q (nI m) (nI e) k = some (nI 1, k) := by
  have a1 : (nI m < 0) = False := eq_false (nI_nn (by omega))
  have a2 : (nI e < 0) = False := eq_false (nI_nn (by omega))
  simp (disch := omega) only [f_X3_hasRoomFor, a1, a2, nlit, nltF, nleF, ↓reduceIte]
theorem x_include {m e : Nat} (hm : m ≤ 256) (he : e < 120) : f_X3_include N q (nI m) (nI e) (hset h q g x y C τ z F) = some (hset h q g x y C (incT τ m e) z F) := by
  have r1 := x_room (N := N) (q := q) (k := hset h q g x y C τ z F) hm he
  have d1 : zdivI (nI e) (64 : Int32) = some (nI (e / 64)) := ndivI (b := 64) (by omega) (by omega) (by omega)
  have d2 : zremI (nI e) (64 : Int32) = some (nI (e % 64)) := nremI (b := 64) (by omega) (by omega) (by omega)
  have e1 : ((nI 1 : Int32) = 0) = False := eq_false (by decide)
  have i1 : (2 : Int32) * nI m + nI (e / 64) = nI (2 * m + e / 64) := by rw [show (2 : Int32) = nI 2 from rfl, nmul, nadd]
  simp (disch := omega) only [f_X3_include, hs_o3, r1, e1, hs_g, d1, d2, i1, hs_ldT, hs_stT, ↓reduceIte, Option.bind_some]
  rfl
theorem x_contains {m e : Nat} (hm : m ≤ 256) (he : e < 120) : f_X3_contains N q (nI m) (nI e) (hset h q g x y C τ z F) = some (b2 (AT τ m e), hset h q g x y C τ z F) := by
  have r1 := x_room (N := N) (q := q) (k := hset h q g x y C τ z F) hm he
  have d1 : zdivI (nI e) (64 : Int32) = some (nI (e / 64)) := ndivI (b := 64) (by omega) (by omega) (by omega)
  have d2 : zremI (nI e) (64 : Int32) = some (nI (e % 64)) := nremI (b := 64) (by omega) (by omega) (by omega)
  have e1 : ((nI 1 : Int32) = 0) = False := eq_false (by decide)
  have i1 : (2 : Int32) * nI m + nI (e / 64) = nI (2 * m + e / 64) := by rw [show (2 : Int32) = nI 2 from rfl, nmul, nadd]
  simp (disch := omega) only [f_X3_contains, hs_o3, r1, e1, hs_g, d1, d2, i1, hs_ldT, lgc_eq, ↓reduceIte, Option.bind_some]
  have t1 := tb_get (x := τ (2 * m + e / 64)) (k := e % 64) (Nat.mod_lt _ (by omega))
  unfold AT
  cases hb : (wx (τ (2 * m + e / 64))).testBit (e % 64) with
  | false => rw [if_pos (t1.mpr hb)]; rfl
  | true => rw [if_neg (fun h9 => by rw [t1.mp h9] at hb; cases hb)]; rfl
theorem x_timesCard {e c : Nat} (he : e < 120) (hc : c < 8) : f_X3_timesCard N q (nI e) (nI c) (hset h q g x y C τ z F) = some (C (c * 120 + e), hset h q g x y C τ z F) := by
  have a1 : (nI c < 0) = False := eq_false (nI_nn (by omega))
  have a2 : (nI e < 0) = False := eq_false (nI_nn (by omega))
  have a3 : (nI c < nI 0) = False := a1
  have a4 : (nI e < nI 0) = False := a2
  simp (disch := omega) only [f_X3_timesCard, a3, a4, nlit, nltT, nleF, nmul, nadd, hs_g, hs_ldC, ↓reduceIte, Option.bind_some]
theorem x_ext43 {c wide half n : Nat} {v1 : Int32} {gc : Nat} {k1 : zH → Option zH} (hn : inN n) (hc : c < 8) (hw : wide ≤ 256) (hh : half < 2) (hC : ∀ e, e < fctN n → C (c * 120 + e) = nI (mulN e gc)) (hg : gc < fctN n) : ∀ (r i fuel : Nat) (w : Int64) (τ : Nat → Int64), i + r = 64 → r < fuel → (∀ j, j < i → (wx w).testBit j = false) → (∀ j, j < 64 → (wx w).testBit j = true → 64 * half + j < fctN n) → ∃ τ' : Nat → Int64, f_X3_extend_l43 N q v1 (nI c) (nI wide) (nI half) k1 fuel w (nI i) (hset h q g x y C τ z F) = k1 (hset h q g x y C τ' z F) ∧ ∀ m' e', e' < 128 → (AT τ' m' e' = true ↔ AT τ m' e' = true ∨ (m' = wide ∧ ∃ j, j < 64 ∧ (wx w).testBit j = true ∧ e' = mulN (64 * half + j) gc)) := by
  have hf := fct_le hn
  intro r
  induction r with
  | zero =>
    intro i fuel w τ hi hfu hlo hF
    obtain ⟨fuel, rfl⟩ : ∃ m, fuel = m + 1 := ⟨fuel - 1, by omega⟩
    refine ⟨τ, ?_, fun m' e' he' => ⟨Or.inl, fun h1 => ?_⟩⟩
    · simp (disch := omega) only [f_X3_extend_l43, nlit, nleT, ↓reduceIte]
    · rcases h1 with h1 | ⟨-, j, j1, j2, -⟩
      · exact h1
      · rw [hlo j (by omega)] at j2
        cases j2
  | succ r ih =>
    intro i fuel w τ hi hfu hlo hF
    obtain ⟨fuel, rfl⟩ : ∃ m, fuel = m + 1 := ⟨fuel - 1, by omega⟩
    by_cases hw0 : w = 0
    · subst hw0
      have e1 : (lg_cmp (0 : Int64) (0 : Int64) = 0) = True := eq_true ((lgc_eq 0 0).mpr rfl)
      refine ⟨τ, ?_, fun m' e' he' => ⟨Or.inl, fun h1 => ?_⟩⟩
      · simp (disch := omega) only [f_X3_extend_l43, nlit, nleF, ↓reduceIte]
        have e2 : (lg_cmp (0 : Int64) (0 : Int64) = nI 0) = True := e1
        simp only [e2, ↓reduceIte]
      · rcases h1 with h1 | ⟨-, j, j1, j2, -⟩
        · exact h1
        · rw [wx_0, Nat.zero_testBit] at j2
          cases j2
    · obtain ⟨b, b1, b2', b3, b4⟩ := low64 hw0
      have bi : i ≤ b := Nat.le_of_not_lt fun h9 => by rw [hlo b h9] at b2'; cases b2'
      have bF := hF b b1 b2'
      have e2 : (lg_cmp w (0 : Int64) = nI 0) = False := eq_false fun h9 => hw0 ((lgc_eq w 0).mp h9)
      have q1 := x_bcL (N := N) (h := hset h q g x y C τ z F) b1
      have q2 := x_timesCard (N := N) (h := h) (q := q) (g := g) (x := x) (y := y) (z := z) (C := C) (F := F) (τ := τ) (e := 64 * half + b) (c := c) (by omega) hc
      rw [hC _ bF] at q2
      have mi := mul_in hn bF hg
      have q3 := x_include (N := N) (h := h) (q := q) (g := g) (x := x) (y := y) (z := z) (C := C) (F := F) (τ := τ) (m := wide) (e := mulN (64 * half + b) gc) hw (by omega)
      obtain ⟨τ', i1, i2⟩ := ih (i + 1) fuel (w ^^^ pw b) (incT τ wide (mulN (64 * half + b) gc)) (by omega) (by omega) (fun j hj => by
        rw [clr64 b1]
        by_cases hjb : b = j
        · subst hjb; rw [b2']; simp
        · rw [b3 j (by omega)]; simp [hjb]) (fun j hj h9 => by
        rw [clr64 b1] at h9
        by_cases hjb : b = j
        · subst hjb; exact bF
        · refine hF j hj ?_
          simpa [hjb] using h9)
      refine ⟨τ', ?_, fun m' e' he' => ?_⟩
      · rw [← i1]
        have mc : nI half * nI 64 + nI b = nI (64 * half + b) := by rw [nmul, nadd, Nat.mul_comm]
        simp (disch := omega) only [f_X3_extend_l43, nlit, nleF, nadd, e2, b4, q1, hs_o3, mc, q2, q3, ↓reduceIte, Option.bind_some]
      · rw [i2 m' e' he', AT_inc (by omega) he']
        constructor
        · rintro ((h1 | ⟨h1, h2⟩) | ⟨h1, j, j1, j2, j3⟩)
          · exact Or.inl h1
          · exact Or.inr ⟨h1, b, b1, b2', h2⟩
          · refine Or.inr ⟨h1, j, j1, ?_, j3⟩
            rw [clr64 b1] at j2
            by_cases hjb : b = j
            · subst hjb; exact b2'
            · simpa [hjb] using j2
        · rintro (h1 | ⟨h1, j, j1, j2, j3⟩)
          · exact Or.inl (Or.inl h1)
          · by_cases hjb : b = j
            · subst hjb
              exact Or.inl (Or.inr ⟨h1, j3⟩)
            · refine Or.inr ⟨h1, j, j1, ?_, j3⟩
              rw [clr64 b1, j2]
              simp [hjb]
end M993

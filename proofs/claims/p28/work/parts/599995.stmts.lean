def SKL (S S' : Nat → Int32) : Prop := ∀ k, k ≠ 4 → k ≠ 5 → k ≠ 6 → k ≠ 12 → k ≠ 13 → k ≠ 14 → S' k = S k
theorem SKL_rf (S : Nat → Int32) : SKL S S := fun _ _ _ _ _ _ _ => rfl
theorem SKL_tr {S S' S'' : Nat → Int32} (h1 : SKL S S') (h2 : SKL S' S'') : SKL S S'' := fun k a b c d e f => (h2 k a b c d e f).trans (h1 k a b c d e f)
theorem SKL_3 {S S' : Nat → Int32} (h1 : SK3 S S') : SKL S S' := fun k a b c d e _ => h1 k a b c d e
theorem SKL_k {S S' : Nat → Int32} (h1 : SK S S') : SKL S S' := fun k a b c d _ _ => h1 k a b c d
theorem SKL_14 {S : Nat → Int32} {x : Int32} : SKL S (upd S 14 x) := fun k _ _ _ _ _ f => upS_ne f
def LB (h0 h : zH) : Prop := (∀ x, x < hS h0 → hM h x = hM h0 x) ∧ hS h0 ≤ hS h ∧ hS h ≤ hS h0 + 3 ∧ hN h0 ≤ hN h ∧ hN h ≤ hN h0 + 720
def LRul (b0 : Nat) (h0 h : zH) (hp rl : Nat) (e : Nat → Nat) (K : Nat) (t : Nat → Nat) : Prop :=
  (hp = 0 ∧ h = h0 ∧ rl = b0 + 43 ∧ e 10 = 0) ∨ (hp = 1 ∧ LB h0 h ∧ hS h0 + 2 < hS h ∧ rl = hS h0 ∧ RuleAt h rl K t ∧ CdM e t K ∧ WFt t K ∧ 0 < K ∧ K ≤ 700 ∧ mPos t K ≤ 1200)
theorem LB_rf (h : zH) : LB h h := ⟨fun _ _ => rfl, Nat.le_refl _, by omega, Nat.le_refl _, by omega⟩
theorem LB_rul {b0 : Nat} {h0 h : zH} {hp rl : Nat} {e : Nat → Nat} {K : Nat} {t : Nat → Nat} (hL : LRul b0 h0 h hp rl e K t) : LB h0 h := by
  rcases hL with ⟨-, rfl, -⟩ | ⟨-, h1, -⟩
  · exact LB_rf _
  · exact h1
theorem CdM_cg {e e' t : Nat → Nat} {K : Nat} (he : ∀ j, j = 10 ∨ 178 ≤ j → e' j = e j) (hC : CdM e t K) : CdM e' t K := by
  obtain ⟨a1, a2⟩ := hC
  refine ⟨(he 10 (Or.inl rfl)).trans a1, fun k hk => ?_⟩
  rw [he _ (Or.inr (by omega)), he _ (Or.inr (by omega))]
  exact a2 k hk
theorem LRul_cg {b0 : Nat} {h0 h : zH} {hp rl : Nat} {e e' : Nat → Nat} {K : Nat} {t : Nat → Nat} (he : ∀ j, j = 10 ∨ 178 ≤ j → e' j = e j) (hL : LRul b0 h0 h hp rl e K t) : LRul b0 h0 h hp rl e' K t := by
  rcases hL with ⟨h1, h2, h3, h4⟩ | ⟨h1, h2, h3, h4, h5, h6, h7⟩
  · exact Or.inl ⟨h1, h2, h3, (he 10 (Or.inl rfl)).trans h4⟩
  · exact Or.inr ⟨h1, h2, h3, h4, h5, CdM_cg he h6, h7⟩
def GoodL (b0 : Nat) (h0 : zH) (B : Nat → Int32) (b : Nat → Nat) (len : Nat) (S0 : Nat → Int32) (k : zH) (S : Nat → Int32) (e : Nat → Nat) (q : Nat) : Prop :=
  ∃ (h : zH) (rl : Nat) (V : Nat → Int32) (cz : Int32) (C T R : Nat → Int32) (X : Nat → Nat → Int32) (P Q : Nat → Int32) (hp K : Nat) (t : Nat → Nat), k = (cset h (b0 + 4) (b0 + 1) rl V B cz C T R X P Q) ∧ At b len V S q ∧ (S 13 = nI 0 ∧ S 6 = -nI 1 ∧ S 14 = nI hp) ∧ (V 2 = nI 0 ∧ V 11 = nI hp ∧ V 13 = -nI 1) ∧ (hp = 0 → cz = nI 0) ∧ (LD e ∧ AucR e T R X P Q ∧ RowOK R) ∧ LRul b0 h0 h hp rl e K t ∧ SKL S0 S
def FailL (b0 : Nat) (h0 : zH) (B : Nat → Int32) (S0 : Nat → Int32) (k : zH) (S : Nat → Int32) : Prop :=
  ∃ (h : zH) (rl : Nat) (V : Nat → Int32) (cz : Int32) (C T R : Nat → Int32) (X : Nat → Nat → Int32) (P Q : Nat → Int32), k = (cset h (b0 + 4) (b0 + 1) rl V B cz C T R X P Q) ∧ V 12 = S 5 ∧ S 5 ≠ nI 0 ∧ V 13 = S 6 ∧ V 2 = nI 0 ∧ RowOK R ∧ LB h0 h ∧ SKL S0 S
def SubL (b0 : Nat) (h0 : zH) (B : Nat → Int32) (b : Nat → Nat) (len : Nat) (S0 : Nat → Int32) (Y : (Nat → Int32) → (Nat → Nat) → zH) (q : Nat) (Fc : Option (Int32 × zH)) (Fm : Option zH) : Prop :=
  (∃ (k : zH) (S : Nat → Int32) (e : Nat → Nat), Fc = some (nI 0, k) ∧ Fm = some (Y S e) ∧ FailL b0 h0 B S0 k S) ∨
  (∃ (k : zH) (S : Nat → Int32) (e : Nat → Nat) (q' : Nat), Fc = some (nI 1, k) ∧ Fm = some (Y S e) ∧ GoodL b0 h0 B b len S0 k S e q' ∧ q < q')
theorem FailL_mk {b0 : Nat} {h0 : zH} {B : Nat → Int32} {S0 : Nat → Int32} {h : zH} {rl : Nat} {V V' : Nat → Int32} {cz : Int32} {C T R : Nat → Int32} {X : Nat → Nat → Int32} {P Q : Nat → Int32} {S S' : Nat → Int32} (h1 : V' 12 = S' 5) (h2 : S' 5 ≠ nI 0) (h3 : V' 13 = S' 6) (h4 : V 2 = nI 0) (h5 : VK V V') (h6 : RowOK R) (h7 : LB h0 h) (h8 : SKL S0 S) (h9 : SKL S S') : FailL b0 h0 B S0 (cset h (b0 + 4) (b0 + 1) (rl) (V') B (cz) (C) (T) (R) (X) (P) (Q)) S' :=
  ⟨h, rl, V', cz, C, T, R, X, P, Q, rfl, h1, h2, h3, (h5 2 (by omega) (by omega) (by omega) (by omega) (by omega) (by omega) (by omega)).trans h4, h6, h7, SKL_tr h8 h9⟩
section M99995c
variable {h : zH} {r0 g rl N : Nat} {V B C : Nat → Int32} {cz : Int32} {T R : Nat → Int32} {X : Nat → Nat → Int32} {P Q : Nat → Int32}
theorem cs_o0 {β : Type} {G : Option β} : onO 0 (r0 + 4) (cset h r0 g rl V B cz C T R X P Q) G = G := by
  rw [cs_comm]
  exact onO_a
theorem cs_o7 {β : Type} {G : Option β} : onO 7 r0 (cset h r0 g rl V B cz C T R X P Q) G = G := r_o7
theorem cs_o1 {β : Type} {G : Option β} {p : Nat} (hp : p < 5) : onO 1 (r0 + 4 + (2 + 5 * p)) (cset h r0 g rl V B cz C T R X P Q) G = G := by
  rw [cs_comm]
  exact onO_b hp
theorem cs_oR {β : Type} {G : Option β} {r : Nat} (hr : isR r = true) : onO 6 (r0 + 4 + r) (cset h r0 g rl V B cz C T R X P Q) G = G := by
  rw [cs_comm]
  exact onO_r hr
theorem cs_gA9 : gA (cset h r0 g rl V B cz C T R X P Q) r0 7 9 = some (r0 + 4) := rg_A.2.2.1
theorem cs_gI8 : gI (cset h r0 g rl V B cz C T R X P Q) r0 7 8 = some (V 8) := by
  unfold cset
  simp only [rg_I]
theorem cs_gI5 : gI (cset h r0 g rl V B cz C T R X P Q) r0 7 5 = some (V 5) := by
  unfold cset
  simp only [rg_I]
theorem cs_gA02 : gA (cset h r0 g rl V B cz C T R X P Q) (r0 + 4) 0 2 = some (r0 + 4 + 27) := by
  rw [cs_comm]
  exact gA_a.2.2.1
theorem cs_gA10 {p : Nat} (hp : p < 5) : gA (cset h r0 g rl V B cz C T R X P Q) (r0 + 4 + (2 + 5 * p)) 1 0 = some (r0 + 4 + (3 + 5 * p)) := by
  rw [cs_comm]
  exact (gA_b hp).1
theorem cs_fail {code : Int32} {off : Nat} : f_X7_fail N r0 code (nI off) (cset h r0 g rl V B cz C T R X P Q) = some (nI 0, cset h r0 g rl (errV V code off) B cz C T R X P Q) := x_fail
theorem cs_add {n : Nat} {x : Int32} (hT : T 9 = nI n) (hn : n < 5) : f_X0_addPlayer N (r0 + 4) x (cset h r0 g rl V B cz C T R X P Q) = some (cset h r0 g rl V B cz C (upd T 9 (nI (n + 1))) (upd (upd R (3 + 5 * n) (nI 0)) (5 + 5 * n) (nI 0)) X (upd P n x) (upd Q n (nI 0))) := by
  rw [cs_comm, x_addPlayer hT hn, cs_comm]
theorem cs_full {r s : Nat} (hr : isR r = true) (hR : R r = nI s) (hs : s = rlen r) : f_X6_isFull N (r0 + 4 + r) (cset h r0 g rl V B cz C T R X P Q) = some (nI 1, cset h r0 g rl V B cz C T R X P Q) := by
  rw [cs_comm]
  exact x_full hr hR hs
theorem cs_nfull {r s : Nat} (hr : isR r = true) (hR : R r = nI s) (hs : s < rlen r) : f_X6_isFull N (r0 + 4 + r) (cset h r0 g rl V B cz C T R X P Q) = some (nI 0, cset h r0 g rl V B cz C T R X P Q) := by
  rw [cs_comm]
  exact x_nfull hr hR hs
theorem cs_push {r s : Nat} {x : Int32} (hr : isR r = true) (hR : R r = nI s) (hs : s < rlen r) : f_X6_push N (r0 + 4 + r) x (cset h r0 g rl V B cz C T R X P Q) = some (cset h r0 g rl V B cz C T (upd R r (nI (s + 1))) (updH X r (upd (X r) s x)) P Q) := by
  rw [cs_comm, x_push hr hR hs, cs_comm]
theorem cs_bidder {p n : Nat} (hT : T 9 = nI n) (hn : n ≤ 5) (hp : p < n) : f_X0_bidder N (r0 + 4) (nI p) (cset h r0 g rl V B cz C T R X P Q) = some (some (r0 + 4 + (2 + 5 * p)), cset h r0 g rl V B cz C T R X P Q) := by
  rw [cs_comm]
  exact x_bidder hT hn hp
theorem cs_card {p s : Nat} {x y : Int32} (hp : p < 5) (h3 : R (3 + 5 * p) = nI s) (h5 : R (5 + 5 * p) = nI s) (hs : s < 8) : f_X1_takeCard N (r0 + 4 + (2 + 5 * p)) x y (cset h r0 g rl V B cz C T R X P Q) = some (cset h r0 g rl V B cz C T (upd (upd R (3 + 5 * p) (nI (s + 1))) (5 + 5 * p) (nI (s + 1))) (updH (updH X (3 + 5 * p) (upd (X (3 + 5 * p)) s x)) (5 + 5 * p) (upd (X (5 + 5 * p)) s y)) P Q) := by
  rw [cs_comm, x_takeCard hp h3 h5 hs, cs_comm]
end M99995c
theorem hi_cn {n : Nat} (hn : n < 100) : ∀ v, v < 2 ^ 30 → (nI v ≤ nI n - nI 1) = (v < n) := fun v hv => by
  by_cases h0 : n = 0
  · subst h0
    refine propext ⟨fun h9 => ?_, fun h9 => absurd h9 (by omega)⟩
    have h1 : nI v < nI 0 := Int32.lt_of_le_of_lt h9 (by decide)
    exact absurd h1 (nI_nn (by omega))
  · rw [nsub (by omega), nle (by omega) (by omega)]
    exact propext ⟨fun h9 => by omega, fun h9 => by omega⟩
theorem hi_mn {n : Nat} (hn : n < 100) : ∀ v, v < 2 ^ 30 → (nI n - nI 1 < nI v) = (n ≤ v) := fun v hv => by
  have h1 := hi_cn hn v hv
  refine propext ⟨fun h9 => ?_, fun h9 => ?_⟩
  · exact Decidable.byContradiction fun h8 => absurd (of_eq_true (h1.trans (eq_true (by omega)))) (Int32.not_le.mpr h9)
  · exact Int32.not_le.mp fun h8 => absurd (h1 ▸ h8) (by omega)
section M99995a
variable {N r : Nat} {X Y Z T A F : zH} {v w u : Int32} {a n : Nat}
def Oh (c a : Nat) (X : zH) : Prop := ∀ (β : Type) (G : Option β), onO c a X G = G
theorem cp_full (o : Oh 7 r X) (ga : gA X r 7 9 = some a) (g9 : gI X a 0 9 = some (nI 5)) (g5 : gI X r 7 5 = some v) (f : f_X7_fail N r (-nI 4) v X = some (nI 0, Y)) : f_X7_takePlayer N r X = some (nI 0, Y) := by
  unfold f_X7_takePlayer
  rw [ga, Option.bind_some, g9, Option.bind_some, if_neg (show ¬ nI 5 < (5 : Int32) from by decide), g5, Option.bind_some, o, show (-4 : Int32) = -nI 4 from rfl, f, Option.bind_some]
  rfl
theorem cp_0 (o : Oh 7 r X) (oy : Oh 7 r Y) (ga : gA X r 7 9 = some a) (g9 : gI X a 0 9 = some (nI n)) (hn : n < 5) (ad : f_X7_advance N r X = some Y) (tn : f_X7_takeNumber N r (nI 0) (nI 99999) Y = some (nI 0, Z)) : f_X7_takePlayer N r X = some (nI 0, Z) := by
  unfold f_X7_takePlayer
  rw [ga, Option.bind_some, g9, Option.bind_some, if_pos (show nI n < (5 : Int32) from of_eq_true (nltT (a := n) (b := 5) (by omega) hn)), o, ad, Option.bind_some, oy, show (0 : Int32) = nI 0 from rfl, show (99999 : Int32) = nI 99999 from nlit 99999, tn, Option.bind_some, if_pos (show (nI 0, Z).1 = nI 0 from rfl)]
theorem cp_1 (o : Oh 7 r X) (oy : Oh 7 r Y) (ga : gA X r 7 9 = some a) (g9 : gI X a 0 9 = some (nI n)) (hn : n < 5) (ad : f_X7_advance N r X = some Y) (tn : f_X7_takeNumber N r (nI 0) (nI 99999) Y = some (nI 1, Z)) (ga' : gA Z r 7 9 = some a) (g8 : gI Z r 7 8 = some w) (oz : Oh 0 a Z) (ap : f_X0_addPlayer N a w Z = some T) : f_X7_takePlayer N r X = some (nI 1, T) := by
  unfold f_X7_takePlayer
  rw [ga, Option.bind_some, g9, Option.bind_some, if_pos (show nI n < (5 : Int32) from of_eq_true (nltT (a := n) (b := 5) (by omega) hn)), o, ad, Option.bind_some, oy, show (0 : Int32) = nI 0 from rfl, show (99999 : Int32) = nI 99999 from nlit 99999, tn, Option.bind_some, if_neg (show ¬ (nI 1, Z).1 = nI 0 from i1ne)]
  dsimp only
  rw [ga', Option.bind_some, g8, Option.bind_some, oz, ap, Option.bind_some]
  rfl
theorem cl_full {c : Nat} (o : Oh 7 r X) (ga : gA X r 7 9 = some a) (g2 : gA X a 0 2 = some c) (o6 : Oh 6 c X) (fl : f_X6_isFull N c X = some (nI 1, X)) (g5 : gI X r 7 5 = some v) (f : f_X7_fail N r (-nI 4) v X = some (nI 0, Y)) : f_X7_takeLot N r X = some (nI 0, Y) := by
  unfold f_X7_takeLot
  rw [ga, Option.bind_some, g2, Option.bind_some, o6, fl, Option.bind_some, if_neg (show ¬ (nI 1, X).1 = 0 from i1ne)]
  dsimp only
  rw [g5, Option.bind_some, o, show (-4 : Int32) = -nI 4 from rfl, f, Option.bind_some]
  rfl
theorem cl_0 {c : Nat} (o : Oh 7 r X) (oy : Oh 7 r Y) (ga : gA X r 7 9 = some a) (g2 : gA X a 0 2 = some c) (o6 : Oh 6 c X) (fl : f_X6_isFull N c X = some (nI 0, X)) (ad : f_X7_advance N r X = some Y) (tn : f_X7_takeNumber N r (nI 1) (nI 9999) Y = some (nI 0, Z)) : f_X7_takeLot N r X = some (nI 0, Z) := by
  unfold f_X7_takeLot
  rw [ga, Option.bind_some, g2, Option.bind_some, o6, fl, Option.bind_some, if_pos (show (nI 0, X).1 = 0 from rfl)]
  dsimp only
  rw [o, ad, Option.bind_some, oy, show (1 : Int32) = nI 1 from rfl, show (9999 : Int32) = nI 9999 from nlit 9999, tn, Option.bind_some, if_pos (show (nI 0, Z).1 = 0 from rfl)]
  rfl
theorem cl_1 {c : Nat} (o : Oh 7 r X) (oy : Oh 7 r Y) (ga : gA X r 7 9 = some a) (g2 : gA X a 0 2 = some c) (o6 : Oh 6 c X) (fl : f_X6_isFull N c X = some (nI 0, X)) (ad : f_X7_advance N r X = some Y) (tn : f_X7_takeNumber N r (nI 1) (nI 9999) Y = some (nI 1, Z)) (ga' : gA Z r 7 9 = some a) (g2' : gA Z a 0 2 = some c) (g8 : gI Z r 7 8 = some w) (oz : Oh 6 c Z) (ap : f_X6_push N c w Z = some T) : f_X7_takeLot N r X = some (nI 1, T) := by
  unfold f_X7_takeLot
  rw [ga, Option.bind_some, g2, Option.bind_some, o6, fl, Option.bind_some, if_pos (show (nI 0, X).1 = 0 from rfl)]
  dsimp only
  rw [o, ad, Option.bind_some, oy, show (1 : Int32) = nI 1 from rfl, show (9999 : Int32) = nI 9999 from nlit 9999, tn, Option.bind_some, if_neg (show ¬ (nI 1, Z).1 = 0 from i1ne)]
  dsimp only
  rw [ga', Option.bind_some, g2', Option.bind_some, g8, Option.bind_some, oz, ap, Option.bind_some]
/-- cards: the player, the row, the element, the base -/
theorem cc_0 {pa : Int32} (o : Oh 7 r X) (oy : Oh 7 r Y) (ad : f_X7_advance N r X = some Y) (g5 : gI Y r 7 5 = some pa) (ga : gA Y r 7 9 = some a) (g9 : gI Y a 0 9 = some v) (tn : f_X7_takeNumber N r (nI 0) (v - nI 1) Y = some (nI 0, Z)) : f_X7_takeCard N r X = some (nI 0, Z) := by
  unfold f_X7_takeCard
  rw [o, ad, Option.bind_some, g5, Option.bind_some, ga, Option.bind_some, g9, Option.bind_some, oy, show (0 : Int32) = nI 0 from rfl, show v - (1 : Int32) = v - nI 1 from rfl, tn, Option.bind_some, if_pos (show (nI 0, Z).1 = nI 0 from rfl)]
theorem cc_full {pa : Int32} {bb rr : Nat} (o : Oh 7 r X) (oy : Oh 7 r Y) (ad : f_X7_advance N r X = some Y) (g5 : gI Y r 7 5 = some pa) (ga : gA Y r 7 9 = some a) (g9 : gI Y a 0 9 = some v) (tn : f_X7_takeNumber N r (nI 0) (v - nI 1) Y = some (nI 1, Z)) (ga' : gA Z r 7 9 = some a) (g8 : gI Z r 7 8 = some w) (oz0 : Oh 0 a Z) (bd : f_X0_bidder N a w Z = some (some bb, Z)) (gr : gA Z bb 1 0 = some rr) (oz6 : Oh 6 rr Z) (oz7 : Oh 7 r Z) (fl : f_X6_isFull N rr Z = some (nI 1, Z)) (f : f_X7_fail N r (-nI 4) pa Z = some (nI 0, T)) : f_X7_takeCard N r X = some (nI 0, T) := by
  unfold f_X7_takeCard
  rw [o, ad, Option.bind_some, g5, Option.bind_some, ga, Option.bind_some, g9, Option.bind_some, oy, show (0 : Int32) = nI 0 from rfl, show v - (1 : Int32) = v - nI 1 from rfl, tn, Option.bind_some, if_neg (show ¬ (nI 1, Z).1 = nI 0 from i1ne)]
  dsimp only
  rw [ga', Option.bind_some, g8, Option.bind_some, oz0, bd, Option.bind_some]
  dsimp only [znl]
  rw [gr, Option.bind_some, oz6, fl, Option.bind_some]
  rw [if_neg (show ¬ (nI 1, Z).1 = nI 0 from i1ne), oz7, show (-4 : Int32) = -nI 4 from rfl, f, Option.bind_some]
  rfl
theorem cc_e0 {pa : Int32} {bb rr : Nat} (o : Oh 7 r X) (oy : Oh 7 r Y) (ad : f_X7_advance N r X = some Y) (g5 : gI Y r 7 5 = some pa) (ga : gA Y r 7 9 = some a) (g9 : gI Y a 0 9 = some v) (tn : f_X7_takeNumber N r (nI 0) (v - nI 1) Y = some (nI 1, Z)) (ga' : gA Z r 7 9 = some a) (g8 : gI Z r 7 8 = some w) (oz0 : Oh 0 a Z) (bd : f_X0_bidder N a w Z = some (some bb, Z)) (gr : gA Z bb 1 0 = some rr) (oz6 : Oh 6 rr Z) (oz7 : Oh 7 r Z) (fl : f_X6_isFull N rr Z = some (nI 0, Z)) (te : f_X7_takeElement N r Z = some (nI 0, T)) : f_X7_takeCard N r X = some (nI 0, T) := by
  unfold f_X7_takeCard
  rw [o, ad, Option.bind_some, g5, Option.bind_some, ga, Option.bind_some, g9, Option.bind_some, oy, show (0 : Int32) = nI 0 from rfl, show v - (1 : Int32) = v - nI 1 from rfl, tn, Option.bind_some, if_neg (show ¬ (nI 1, Z).1 = nI 0 from i1ne)]
  dsimp only
  rw [ga', Option.bind_some, g8, Option.bind_some, oz0, bd, Option.bind_some]
  dsimp only [znl]
  rw [gr, Option.bind_some, oz6, fl, Option.bind_some]
  rw [if_pos (show (nI 0, Z).1 = nI 0 from rfl)]
  dsimp only
  rw [oz7, te, Option.bind_some, if_pos (show (nI 0, T).1 = nI 0 from rfl)]
theorem cc_b0 {pa : Int32} {bb rr : Nat} (o : Oh 7 r X) (oy : Oh 7 r Y) (ad : f_X7_advance N r X = some Y) (g5 : gI Y r 7 5 = some pa) (ga : gA Y r 7 9 = some a) (g9 : gI Y a 0 9 = some v) (tn : f_X7_takeNumber N r (nI 0) (v - nI 1) Y = some (nI 1, Z)) (ga' : gA Z r 7 9 = some a) (g8 : gI Z r 7 8 = some w) (oz0 : Oh 0 a Z) (bd : f_X0_bidder N a w Z = some (some bb, Z)) (gr : gA Z bb 1 0 = some rr) (oz6 : Oh 6 rr Z) (oz7 : Oh 7 r Z) (fl : f_X6_isFull N rr Z = some (nI 0, Z)) (te : f_X7_takeElement N r Z = some (nI 1, T)) (ot : Oh 7 r T) (g8' : gI T r 7 8 = some u) (tb : f_X7_takeNumber N r (nI 1) (nI 999) T = some (nI 0, A)) : f_X7_takeCard N r X = some (nI 0, A) := by
  unfold f_X7_takeCard
  rw [o, ad, Option.bind_some, g5, Option.bind_some, ga, Option.bind_some, g9, Option.bind_some, oy, show (0 : Int32) = nI 0 from rfl, show v - (1 : Int32) = v - nI 1 from rfl, tn, Option.bind_some, if_neg (show ¬ (nI 1, Z).1 = nI 0 from i1ne)]
  dsimp only
  rw [ga', Option.bind_some, g8, Option.bind_some, oz0, bd, Option.bind_some]
  dsimp only [znl]
  rw [gr, Option.bind_some, oz6, fl, Option.bind_some]
  rw [if_pos (show (nI 0, Z).1 = nI 0 from rfl)]
  dsimp only
  rw [oz7, te, Option.bind_some, if_neg (show ¬ (nI 1, T).1 = nI 0 from i1ne)]
  dsimp only
  rw [g8', Option.bind_some, ot, show (1 : Int32) = nI 1 from rfl, show (999 : Int32) = nI 999 from nlit 999, tb, Option.bind_some, if_pos (show (nI 0, A).1 = nI 0 from rfl)]
theorem cc_b1 {y : Int32} {pa : Int32} {bb rr : Nat} (o : Oh 7 r X) (oy : Oh 7 r Y) (ad : f_X7_advance N r X = some Y) (g5 : gI Y r 7 5 = some pa) (ga : gA Y r 7 9 = some a) (g9 : gI Y a 0 9 = some v) (tn : f_X7_takeNumber N r (nI 0) (v - nI 1) Y = some (nI 1, Z)) (ga' : gA Z r 7 9 = some a) (g8 : gI Z r 7 8 = some w) (oz0 : Oh 0 a Z) (bd : f_X0_bidder N a w Z = some (some bb, Z)) (gr : gA Z bb 1 0 = some rr) (oz6 : Oh 6 rr Z) (oz7 : Oh 7 r Z) (fl : f_X6_isFull N rr Z = some (nI 0, Z)) (te : f_X7_takeElement N r Z = some (nI 1, T)) (ot : Oh 7 r T) (g8' : gI T r 7 8 = some u) (tb : f_X7_takeNumber N r (nI 1) (nI 999) T = some (nI 1, A)) (g8'' : gI A r 7 8 = some y) (oa : Oh 1 bb A) (tc : f_X1_takeCard N bb u y A = some F) : f_X7_takeCard N r X = some (nI 1, F) := by
  unfold f_X7_takeCard
  rw [o, ad, Option.bind_some, g5, Option.bind_some, ga, Option.bind_some, g9, Option.bind_some, oy, show (0 : Int32) = nI 0 from rfl, show v - (1 : Int32) = v - nI 1 from rfl, tn, Option.bind_some, if_neg (show ¬ (nI 1, Z).1 = nI 0 from i1ne)]
  dsimp only
  rw [ga', Option.bind_some, g8, Option.bind_some, oz0, bd, Option.bind_some]
  dsimp only [znl]
  rw [gr, Option.bind_some, oz6, fl, Option.bind_some]
  rw [if_pos (show (nI 0, Z).1 = nI 0 from rfl)]
  dsimp only
  rw [oz7, te, Option.bind_some, if_neg (show ¬ (nI 1, T).1 = nI 0 from i1ne)]
  dsimp only
  rw [g8', Option.bind_some, ot, show (1 : Int32) = nI 1 from rfl, show (999 : Int32) = nI 999 from nlit 999, tb, Option.bind_some, if_neg (show ¬ (nI 1, A).1 = nI 0 from i1ne)]
  dsimp only
  rw [g8'', Option.bind_some, oa, tc, Option.bind_some]
end M99995a

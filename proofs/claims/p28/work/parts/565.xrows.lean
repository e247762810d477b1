def shI (f : Nat → Int32) (s r o : Nat) : Nat → Int32 := fun j => if s ≤ j ∧ j < s + r then f (j + o) else f j
theorem isR_27 : isR 27 = true := rfl
theorem isR_29 : isR 29 = true := rfl
theorem isR_31 : isR 31 = true := rfl
theorem isR_33 : isR 33 = true := rfl
theorem shI_0 (f : Nat → Int32) (s o : Nat) : shI f s 0 o = f := by
  funext j
  unfold shI
  rw [if_neg (by omega)]
theorem shI_step (f : Nat → Int32) (s r o : Nat) (ho : 0 < o) : shI (upd f s (f (s + o))) (s + 1) r o = shI f s (r + 1) o := by
  funext j
  unfold shI
  by_cases h1 : j = s
  · subst h1
    rw [if_neg (by omega), upS_eq, if_pos (by omega)]
  · by_cases h2 : s ≤ j ∧ j < s + (r + 1)
    · rw [if_pos (by omega), if_pos h2, upS_ne (by omega)]
    · rw [if_neg (by omega), if_neg h2, upS_ne h1]
theorem shI_out {f : Nat → Int32} {s r o j : Nat} (hj : j < s ∨ s + r ≤ j) : shI f s r o j = f j := if_neg (by omega)
theorem shI_in {f : Nat → Int32} {s r o j : Nat} (h1 : s ≤ j) (h2 : j < s + r) : shI f s r o j = f (j + o) := if_pos ⟨h1, h2⟩
theorem updH_updH (X : Nat → Nat → Int32) (r : Nat) (f f' : Nat → Int32) : updH (updH X r f) r f' = updH X r f' := by
  funext j
  unfold updH
  split <;> rfl
theorem updH_same (X : Nat → Nat → Int32) (r : Nat) : updH X r (X r) = X := by
  funext j
  unfold updH
  split
  · next e => rw [e]
  · rfl
section M65
variable {h : zH} {a g rl N : Nat} {T R : Nat → Int32} {X : Nat → Nat → Int32} {P Q : Nat → Int32}
theorem x_size {r : Nat} (hr : isR r = true) : f_X6_size N (a + r) (aset h a g rl T R X P Q) = some (R r, (aset h a g rl T R X P Q)) := by
  simp (disch := first | assumption | exact isR_27 | exact isR_29 | exact isR_31 | exact isR_33 | omega) only [f_X6_size, nlit, nlt, nle, neq, nadd, nmul, nsub, if_pos, if_neg, if_true, if_false, Option.bind_some, onO_a, onO_b, onO_r, gI_a, gA_a, pF_a, pF_rl, gI_b, gA_b, pF_bP, pF_bQ, ldQ_a, upS_eq, upS_ne, updH_eq, updH_ne, Nat.add_zero, Nat.zero_add, zjn, znl, gI_r, gA_r, aLen_r, pF_r, ldI_r, stI_r]
theorem x_full {r s : Nat} (hr : isR r = true) (hR : R r = nI s) (hs : s = rlen r) : f_X6_isFull N (a + r) (aset h a g rl T R X P Q) = some (nI 1, (aset h a g rl T R X P Q)) := by
  have := rlen_le r
  simp (disch := first | assumption | exact isR_27 | exact isR_29 | exact isR_31 | exact isR_33 | omega) only [f_X6_isFull, hR, nlit, nlt, nle, neq, nadd, nmul, nsub, if_pos, if_neg, if_true, if_false, Option.bind_some, onO_a, onO_b, onO_r, gI_a, gA_a, pF_a, pF_rl, gI_b, gA_b, pF_bP, pF_bQ, ldQ_a, upS_eq, upS_ne, updH_eq, updH_ne, Nat.add_zero, Nat.zero_add, zjn, znl, gI_r, gA_r, aLen_r, pF_r, ldI_r, stI_r]
theorem x_nfull {r s : Nat} (hr : isR r = true) (hR : R r = nI s) (hs : s < rlen r) : f_X6_isFull N (a + r) (aset h a g rl T R X P Q) = some (nI 0, (aset h a g rl T R X P Q)) := by
  have := rlen_le r
  simp (disch := first | assumption | exact isR_27 | exact isR_29 | exact isR_31 | exact isR_33 | omega) only [f_X6_isFull, hR, nlit, nlt, nle, neq, nadd, nmul, nsub, if_pos, if_neg, if_true, if_false, Option.bind_some, onO_a, onO_b, onO_r, gI_a, gA_a, pF_a, pF_rl, gI_b, gA_b, pF_bP, pF_bQ, ldQ_a, upS_eq, upS_ne, updH_eq, updH_ne, Nat.add_zero, Nat.zero_add, zjn, znl, gI_r, gA_r, aLen_r, pF_r, ldI_r, stI_r]
theorem x_holds {r s : Nat} {x : Int32} (hr : isR r = true) (hR : R r = nI s) (hs : s ≤ rlen r) (hx : inP x s) : f_X6_holds N (a + r) x (aset h a g rl T R X P Q) = some (nI 1, (aset h a g rl T R X P Q)) := by
  have := rlen_le r
  obtain ⟨v, hv, rfl⟩ := hx
  simp (disch := first | assumption | exact isR_27 | exact isR_29 | exact isR_31 | exact isR_33 | omega) only [f_X6_holds, hR, nlit, nlt, nle, neq, nadd, nmul, nsub, if_pos, if_neg, if_true, if_false, Option.bind_some, onO_a, onO_b, onO_r, gI_a, gA_a, pF_a, pF_rl, gI_b, gA_b, pF_bP, pF_bQ, ldQ_a, upS_eq, upS_ne, updH_eq, updH_ne, Nat.add_zero, Nat.zero_add, zjn, znl, gI_r, gA_r, aLen_r, pF_r, ldI_r, stI_r]
theorem x_nholds {r s : Nat} {x : Int32} (hr : isR r = true) (hR : R r = nI s) (hs : s ≤ rlen r) (hx : ¬ inP x s) : f_X6_holds N (a + r) x (aset h a g rl T R X P Q) = some (nI 0, (aset h a g rl T R X P Q)) := by
  have := rlen_le r
  rcases inP_cases x s with h1 | ⟨_, h1 | ⟨v, hv, hkv, rfl⟩⟩
  · exact absurd h1 hx
  · rw [f_X6_holds, if_pos h1]
    rfl
  · simp (disch := first | assumption | exact isR_27 | exact isR_29 | exact isR_31 | exact isR_33 | omega) only [f_X6_holds, hR, nlit, nlt, nle, neq, nadd, nmul, nsub, if_pos, if_neg, if_true, if_false, Option.bind_some, onO_a, onO_b, onO_r, gI_a, gA_a, pF_a, pF_rl, gI_b, gA_b, pF_bP, pF_bQ, ldQ_a, upS_eq, upS_ne, updH_eq, updH_ne, Nat.add_zero, Nat.zero_add, zjn, znl, gI_r, gA_r, aLen_r, pF_r, ldI_r, stI_r]
theorem x_at {r s v : Nat} (hr : isR r = true) (hR : R r = nI s) (hs : s ≤ rlen r) (hv : v < s) : f_X6_at N (a + r) (nI v) (aset h a g rl T R X P Q) = some (X r v, (aset h a g rl T R X P Q)) := by
  have := rlen_le r
  have hh := x_holds (N := N) (h := h) (a := a) (g := g) (rl := rl) (T := T) (X := X) (P := P) (Q := Q) hr hR hs ⟨v, hv, rfl⟩
  simp (disch := first | assumption | exact isR_27 | exact isR_29 | exact isR_31 | exact isR_33 | omega) only [f_X6_at, hR, hh, nlit, nlt, nle, neq, nadd, nmul, nsub, if_pos, if_neg, if_true, if_false, Option.bind_some, onO_a, onO_b, onO_r, gI_a, gA_a, pF_a, pF_rl, gI_b, gA_b, pF_bP, pF_bQ, ldQ_a, upS_eq, upS_ne, updH_eq, updH_ne, Nat.add_zero, Nat.zero_add, zjn, znl, gI_r, gA_r, aLen_r, pF_r, ldI_r, stI_r]
theorem x_push {r s : Nat} {x : Int32} (hr : isR r = true) (hR : R r = nI s) (hs : s < rlen r) : f_X6_push N (a + r) x (aset h a g rl T R X P Q) = some (aset h a g rl T (upd R r (nI (s + 1))) (updH X r (upd (X r) s x)) P Q) := by
  have := rlen_le r
  simp (disch := first | assumption | exact isR_27 | exact isR_29 | exact isR_31 | exact isR_33 | omega) only [f_X6_push, hR, nlit, nlt, nle, neq, nadd, nmul, nsub, if_pos, if_neg, if_true, if_false, Option.bind_some, onO_a, onO_b, onO_r, gI_a, gA_a, pF_a, pF_rl, gI_b, gA_b, pF_bP, pF_bQ, ldQ_a, upS_eq, upS_ne, updH_eq, updH_ne, Nat.add_zero, Nat.zero_add, zjn, znl, gI_r, gA_r, aLen_r, pF_r, ldI_r, stI_r]
theorem x_clear {r : Nat} (hr : isR r = true) : f_X6_clear N (a + r) (aset h a g rl T R X P Q) = some (aset h a g rl T (upd R r (nI 0)) X P Q) := by
  simp (disch := first | assumption | exact isR_27 | exact isR_29 | exact isR_31 | exact isR_33 | omega) only [f_X6_clear, nlit, nlt, nle, neq, nadd, nmul, nsub, if_pos, if_neg, if_true, if_false, Option.bind_some, onO_a, onO_b, onO_r, gI_a, gA_a, pF_a, pF_rl, gI_b, gA_b, pF_bP, pF_bQ, ldQ_a, upS_eq, upS_ne, updH_eq, updH_ne, Nat.add_zero, Nat.zero_add, zjn, znl, gI_r, gA_r, aLen_r, pF_r, ldI_r, stI_r]
theorem x_rem_l {r s : Nat} (hr : isR r = true) (hR : R r = nI s) (hs : s ≤ rlen r) (k1 : zH → Option zH) : ∀ (c k f : Nat) (X : Nat → Nat → Int32), k + 1 + c = s → c < f → f_X6_remove_l13 N (a + r) k1 f (nI (k + 1)) (aset h a g rl T R X P Q) = k1 (aset h a g rl T R (updH X r (shI (X r) k c 1)) P Q) := by
  have := rlen_le r
  intro c
  induction c with
  | zero =>
    intro k f X hk hf
    obtain ⟨f, rfl⟩ : ∃ m, f = m + 1 := ⟨f - 1, by omega⟩
    rw [shI_0, updH_same]
    simp (disch := first | assumption | exact isR_27 | exact isR_29 | exact isR_31 | exact isR_33 | omega) only [f_X6_remove_l13, hR, nlit, nlt, nle, neq, nadd, nmul, nsub, if_pos, if_neg, if_true, if_false, Option.bind_some, onO_a, onO_b, onO_r, gI_a, gA_a, pF_a, pF_rl, gI_b, gA_b, pF_bP, pF_bQ, ldQ_a, upS_eq, upS_ne, updH_eq, updH_ne, Nat.add_zero, Nat.zero_add, zjn, znl, gI_r, gA_r, aLen_r, pF_r, ldI_r, stI_r]
  | succ c ih =>
    intro k f X hk hf
    obtain ⟨f, rfl⟩ : ∃ m, f = m + 1 := ⟨f - 1, by omega⟩
    simp (disch := first | assumption | exact isR_27 | exact isR_29 | exact isR_31 | exact isR_33 | omega) only [f_X6_remove_l13, hR, Nat.add_sub_cancel, nlit, nlt, nle, neq, nadd, nmul, nsub, if_pos, if_neg, if_true, if_false, Option.bind_some, onO_a, onO_b, onO_r, gI_a, gA_a, pF_a, pF_rl, gI_b, gA_b, pF_bP, pF_bQ, ldQ_a, upS_eq, upS_ne, updH_eq, updH_ne, Nat.add_zero, Nat.zero_add, zjn, znl, gI_r, gA_r, aLen_r, pF_r, ldI_r, stI_r]
    rw [ih (k + 1) f _ (by omega) (by omega), updH_updH, updH_eq, shI_step _ _ _ _ (by omega)]
theorem x_remove {r s v : Nat} (hN : 100 < N) (hr : isR r = true) (hR : R r = nI s) (hs : s ≤ rlen r) (hv : v < s) : f_X6_remove N (a + r) (nI v) (aset h a g rl T R X P Q) = some (aset h a g rl T (upd R r (nI (s - 1))) (updH X r (shI (X r) v (s - 1 - v) 1)) P Q) := by
  have := rlen_le r
  have hh := x_holds (N := N) (h := h) (a := a) (g := g) (rl := rl) (T := T) (X := X) (P := P) (Q := Q) hr hR hs ⟨v, hv, rfl⟩
  simp (disch := first | assumption | exact isR_27 | exact isR_29 | exact isR_31 | exact isR_33 | omega) only [f_X6_remove, hh, nlit, nlt, nle, neq, nadd, nmul, nsub, if_pos, if_neg, if_true, if_false, Option.bind_some, onO_a, onO_b, onO_r, gI_a, gA_a, pF_a, pF_rl, gI_b, gA_b, pF_bP, pF_bQ, ldQ_a, upS_eq, upS_ne, updH_eq, updH_ne, Nat.add_zero, Nat.zero_add, zjn, znl]
  rw [x_rem_l hr hR hs _ (s - 1 - v) v N X (by omega) (by omega)]
  simp (disch := first | assumption | exact isR_27 | exact isR_29 | exact isR_31 | exact isR_33 | omega) only [hR, nlit, nlt, nle, neq, nadd, nmul, nsub, if_pos, if_neg, if_true, if_false, Option.bind_some, onO_a, onO_b, onO_r, gI_a, gA_a, pF_a, pF_rl, gI_b, gA_b, pF_bP, pF_bQ, ldQ_a, upS_eq, upS_ne, updH_eq, updH_ne, Nat.add_zero, Nat.zero_add, zjn, znl, gI_r, gA_r, aLen_r, pF_r, ldI_r, stI_r]
theorem x_max {x y : Nat} {k : zH} (hx : x < 2 ^ 31) (hy : y < 2 ^ 31) : f_J9_max_7cf53 N (nI x) (nI y) k = some (nI (max x y), k) := by
  by_cases hc : x < y
  · rw [show max x y = y by omega]
    simp (disch := omega) only [f_J9_max_7cf53, nlt, if_pos]
  · rw [show max x y = x by omega]
    simp (disch := omega) only [f_J9_max_7cf53, nlt, if_neg]
theorem x_min {x y : Nat} {k : zH} (hx : x < 2 ^ 31) (hy : y < 2 ^ 31) : f_J9_min_7cf53 N (nI x) (nI y) k = some (nI (min x y), k) := by
  by_cases hc : y < x
  · rw [show min x y = y by omega]
    simp (disch := omega) only [f_J9_min_7cf53, nlt, if_pos]
  · rw [show min x y = x by omega]
    simp (disch := omega) only [f_J9_min_7cf53, nlt, if_neg]
theorem x_receive {p x y : Nat} (hp : p < 5) (hP : P p = nI x) (hxy : x + y ≤ 999999) : f_X1_receive N (a + (2 + 5 * p)) (nI y) (aset h a g rl T R X P Q) = some (aset h a g rl T R X (upd P p (nI (x + y))) Q) := by
  simp (disch := first | assumption | exact isR_27 | exact isR_29 | exact isR_31 | exact isR_33 | omega) only [f_X1_receive, hP, x_min, x_max, nlit, nlt, nle, neq, nadd, nmul, nsub, if_pos, if_neg, if_true, if_false, Option.bind_some, onO_a, onO_b, onO_r, gI_a, gA_a, pF_a, pF_rl, gI_b, gA_b, pF_bP, pF_bQ, ldQ_a, upS_eq, upS_ne, updH_eq, updH_ne, Nat.add_zero, Nat.zero_add, zjn, znl]
  rw [show max 0 (min 999999 (x + y)) = x + y by omega]
theorem x_takeCard {p s : Nat} {x y : Int32} (hp : p < 5) (h3 : R (3 + 5 * p) = nI s) (h5 : R (5 + 5 * p) = nI s) (hs : s < 8) : f_X1_takeCard N (a + (2 + 5 * p)) x y (aset h a g rl T R X P Q) = some (aset h a g rl T (upd (upd R (3 + 5 * p) (nI (s + 1))) (5 + 5 * p) (nI (s + 1))) (updH (updH X (3 + 5 * p) (upd (X (3 + 5 * p)) s x)) (5 + 5 * p) (upd (X (5 + 5 * p)) s y)) P Q) := by
  have i3 := isR_e hp
  have i5 := isR_b hp
  have l3 := rlen_e hp
  have l5 := rlen_b hp
  have q1 := x_push (N := N) (h := h) (a := a) (g := g) (rl := rl) (T := T) (X := X) (P := P) (Q := Q) (x := x) i3 h3 (by omega)
  have q2 := x_push (N := N) (h := h) (a := a) (g := g) (rl := rl) (T := T) (R := upd R (3 + 5 * p) (nI (s + 1))) (X := updH X (3 + 5 * p) (upd (X (3 + 5 * p)) s x)) (P := P) (Q := Q) (x := y) i5 (by rw [upS_ne (by omega)]; exact h5) (by omega)
  rw [updH_ne (show 5 + 5 * p ≠ 3 + 5 * p by omega)] at q2
  simp (disch := first | assumption | exact isR_27 | exact isR_29 | exact isR_31 | exact isR_33 | omega) only [f_X1_takeCard, q1, q2, nlit, nlt, nle, neq, nadd, nmul, nsub, if_pos, if_neg, if_true, if_false, Option.bind_some, onO_a, onO_b, onO_r, gI_a, gA_a, pF_a, pF_rl, gI_b, gA_b, pF_bP, pF_bQ, ldQ_a, upS_eq, upS_ne, updH_eq, updH_ne, Nat.add_zero, Nat.zero_add, zjn, znl]
theorem x_dropCard {p s v : Nat} (hN : 100 < N) (hp : p < 5) (h3 : R (3 + 5 * p) = nI s) (h5 : R (5 + 5 * p) = nI s) (hs : s ≤ 8) (hv : v < s) : f_X1_dropCard N (a + (2 + 5 * p)) (nI v) (aset h a g rl T R X P Q) = some (aset h a g rl T (upd (upd R (3 + 5 * p) (nI (s - 1))) (5 + 5 * p) (nI (s - 1))) (updH (updH X (3 + 5 * p) (shI (X (3 + 5 * p)) v (s - 1 - v) 1)) (5 + 5 * p) (shI (X (5 + 5 * p)) v (s - 1 - v) 1)) P Q) := by
  have i3 := isR_e hp
  have i5 := isR_b hp
  have l3 := rlen_e hp
  have l5 := rlen_b hp
  have q1 := x_remove (N := N) (h := h) (a := a) (g := g) (rl := rl) (T := T) (X := X) (P := P) (Q := Q) hN i3 h3 (by omega) hv
  have q2 := x_remove (N := N) (h := h) (a := a) (g := g) (rl := rl) (T := T) (R := upd R (3 + 5 * p) (nI (s - 1))) (X := updH X (3 + 5 * p) (shI (X (3 + 5 * p)) v (s - 1 - v) 1)) (P := P) (Q := Q) hN i5 (by rw [upS_ne (by omega)]; exact h5) (by omega) hv
  rw [updH_ne (show 5 + 5 * p ≠ 3 + 5 * p by omega)] at q2
  simp (disch := first | assumption | exact isR_27 | exact isR_29 | exact isR_31 | exact isR_33 | omega) only [f_X1_dropCard, q1, q2, nlit, nlt, nle, neq, nadd, nmul, nsub, if_pos, if_neg, if_true, if_false, Option.bind_some, onO_a, onO_b, onO_r, gI_a, gA_a, pF_a, pF_rl, gI_b, gA_b, pF_bP, pF_bQ, ldQ_a, upS_eq, upS_ne, updH_eq, updH_ne, Nat.add_zero, Nat.zero_add, zjn, znl]
theorem x_bidder {p n : Nat} (hT : T 9 = nI n) (hn : n ≤ 5) (hp : p < n) : f_X0_bidder N a (nI p) (aset h a g rl T R X P Q) = some (some (a + (2 + 5 * p)), (aset h a g rl T R X P Q)) := by
  simp (disch := first | assumption | exact isR_27 | exact isR_29 | exact isR_31 | exact isR_33 | omega) only [f_X0_bidder, hT, nlit, nlt, nle, neq, nadd, nmul, nsub, if_pos, if_neg, if_true, if_false, Option.bind_some, onO_a, onO_b, onO_r, gI_a, gA_a, pF_a, pF_rl, gI_b, gA_b, pF_bP, pF_bQ, ldQ_a, upS_eq, upS_ne, updH_eq, updH_ne, Nat.add_zero, Nat.zero_add, zjn, znl]
theorem x_nobidder {x : Int32} {n : Nat} (hT : T 9 = nI n) (hn : n ≤ 5) (hx : ¬ inP x n) : f_X0_bidder N a x (aset h a g rl T R X P Q) = some (none, (aset h a g rl T R X P Q)) := by
  rcases inP_cases x n with h1 | ⟨_, h1 | ⟨v, hv, hkv, rfl⟩⟩
  · exact absurd h1 hx
  · rw [f_X0_bidder, if_pos h1]
  · simp (disch := first | assumption | exact isR_27 | exact isR_29 | exact isR_31 | exact isR_33 | omega) only [f_X0_bidder, hT, nlit, nlt, nle, neq, nadd, nmul, nsub, if_pos, if_neg, if_true, if_false, Option.bind_some, onO_a, onO_b, onO_r, gI_a, gA_a, pF_a, pF_rl, gI_b, gA_b, pF_bP, pF_bQ, ldQ_a, upS_eq, upS_ne, updH_eq, updH_ne, Nat.add_zero, Nat.zero_add, zjn, znl]
theorem x_clearLot : f_X0_clearLot N a (aset h a g rl T R X P Q) = some (aset h a g rl (upd (upd T 12 (nI 0)) 13 (nI 0)) (upd (upd (upd R 29 (nI 0)) 31 (nI 0)) 33 (nI 0)) X P Q) := by
  simp (disch := first | assumption | exact isR_27 | exact isR_29 | exact isR_31 | exact isR_33 | omega) only [f_X0_clearLot, x_clear, nlit, nlt, nle, neq, nadd, nmul, nsub, if_pos, if_neg, if_true, if_false, Option.bind_some, onO_a, onO_b, onO_r, gI_a, gA_a, pF_a, pF_rl, gI_b, gA_b, pF_bP, pF_bQ, ldQ_a, upS_eq, upS_ne, updH_eq, updH_ne, Nat.add_zero, Nat.zero_add, zjn, znl]
theorem x_turnToNext {t n : Nat} (h11 : T 11 = nI t) (h9 : T 9 = nI n) (ht : t < 100) (hn : n < 100) (htn : t < n) : f_X0_turnToNext N a (aset h a g rl T R X P Q) = some (aset h a g rl (upd T 11 (nI ((t + 1) % n))) R X P Q) := by
  by_cases hc : n ≤ t + 1
  · rw [show t + 1 = n by omega, Nat.mod_self]
    simp (disch := first | assumption | exact isR_27 | exact isR_29 | exact isR_31 | exact isR_33 | omega) only [f_X0_turnToNext, h11, h9, nlit, nlt, nle, neq, nadd, nmul, nsub, if_pos, if_neg, if_true, if_false, Option.bind_some, onO_a, onO_b, onO_r, gI_a, gA_a, pF_a, pF_rl, gI_b, gA_b, pF_bP, pF_bQ, ldQ_a, upS_eq, upS_ne, updH_eq, updH_ne, Nat.add_zero, Nat.zero_add, zjn, znl]
  · rw [Nat.mod_eq_of_lt (by omega)]
    simp (disch := first | assumption | exact isR_27 | exact isR_29 | exact isR_31 | exact isR_33 | omega) only [f_X0_turnToNext, h11, h9, nlit, nlt, nle, neq, nadd, nmul, nsub, if_pos, if_neg, if_true, if_false, Option.bind_some, onO_a, onO_b, onO_r, gI_a, gA_a, pF_a, pF_rl, gI_b, gA_b, pF_bP, pF_bQ, ldQ_a, upS_eq, upS_ne, updH_eq, updH_ne, Nat.add_zero, Nat.zero_add, zjn, znl]
theorem x_openNextLot {k : Nat} (h10 : T 10 = nI k) : f_X0_openNextLot N a (aset h a g rl T R X P Q) = some (aset h a g rl (upd (upd (upd T 10 (nI (k + 1))) 12 (nI 0)) 13 (nI 0)) (upd (upd (upd R 29 (nI 0)) 31 (nI 0)) 33 (nI 0)) X P Q) := by
  simp (disch := first | assumption | exact isR_27 | exact isR_29 | exact isR_31 | exact isR_33 | omega) only [f_X0_openNextLot, x_clearLot, h10, nlit, nlt, nle, neq, nadd, nmul, nsub, if_pos, if_neg, if_true, if_false, Option.bind_some, onO_a, onO_b, onO_r, gI_a, gA_a, pF_a, pF_rl, gI_b, gA_b, pF_bP, pF_bQ, ldQ_a, upS_eq, upS_ne, updH_eq, updH_ne, Nat.add_zero, Nat.zero_add, zjn, znl]
theorem x_isOver {n k l : Nat} (h9 : T 9 = nI n) (h10 : T 10 = nI k) (h27 : R 27 = nI l) (hn : n < 100) (hl : l ≤ 12) (hk : k < 100) : f_X0_isOver N a (aset h a g rl T R X P Q) = some (b2 (Nat.beq n 0 || Nat.ble l k), (aset h a g rl T R X P Q)) := by
  by_cases c1 : n = 0
  · subst c1
    simp (disch := first | assumption | exact isR_27 | exact isR_29 | exact isR_31 | exact isR_33 | omega) only [f_X0_isOver, h9, nlit, nlt, nle, neq, nadd, nmul, nsub, if_pos, if_neg, if_true, if_false, Option.bind_some, onO_a, onO_b, onO_r, gI_a, gA_a, pF_a, pF_rl, gI_b, gA_b, pF_bP, pF_bQ, ldQ_a, upS_eq, upS_ne, updH_eq, updH_ne, Nat.add_zero, Nat.zero_add, zjn, znl]
    rfl
  · have e1 : Nat.beq n 0 = false := by
      cases hb : Nat.beq n 0 with
      | false => rfl
      | true => exact absurd (Nat.eq_of_beq_eq_true hb) c1
    by_cases c2 : k < l
    · have hh := x_holds (N := N) (h := h) (a := a) (g := g) (rl := rl) (T := T) (X := X) (P := P) (Q := Q) (r := 27) rfl h27 (by show l ≤ 12; exact hl) ⟨k, c2, rfl⟩
      have e2 : Nat.ble l k = false := by
        cases hb : Nat.ble l k with
        | false => rfl
        | true => exact absurd (Nat.le_of_ble_eq_true hb) (by omega)
      simp (disch := first | assumption | exact isR_27 | exact isR_29 | exact isR_31 | exact isR_33 | omega) only [f_X0_isOver, h9, h10, hh, nlit, nlt, nle, neq, nadd, nmul, nsub, if_pos, if_neg, if_true, if_false, Option.bind_some, onO_a, onO_b, onO_r, gI_a, gA_a, pF_a, pF_rl, gI_b, gA_b, pF_bP, pF_bQ, ldQ_a, upS_eq, upS_ne, updH_eq, updH_ne, Nat.add_zero, Nat.zero_add, zjn, znl, e1, e2]
      rfl
    · have hh := x_nholds (N := N) (h := h) (a := a) (g := g) (rl := rl) (T := T) (X := X) (P := P) (Q := Q) (r := 27) (x := nI k) rfl h27 (by show l ≤ 12; exact hl) (by
        rintro ⟨v, hv, hv2⟩
        rw [neq (by omega) (by omega)] at hv2
        omega)
      have e2 : Nat.ble l k = true := Nat.ble_eq_true_of_le (by omega)
      simp (disch := first | assumption | exact isR_27 | exact isR_29 | exact isR_31 | exact isR_33 | omega) only [f_X0_isOver, h9, h10, hh, nlit, nlt, nle, neq, nadd, nmul, nsub, if_pos, if_neg, if_true, if_false, Option.bind_some, onO_a, onO_b, onO_r, gI_a, gA_a, pF_a, pF_rl, gI_b, gA_b, pF_bP, pF_bQ, ldQ_a, upS_eq, upS_ne, updH_eq, updH_ne, Nat.add_zero, Nat.zero_add, zjn, znl, e1, e2]
      rfl
end M65

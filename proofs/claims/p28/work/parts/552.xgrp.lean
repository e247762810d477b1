theorem nlit (n : Nat) : (OfNat.ofNat n : Int32) = nI n := rfl
theorem nlt {a b : Nat} (ha : a < 2 ^ 31) (hb : b < 2 ^ 31) : (nI a < nI b) = (a < b) := propext (nI_ltI ha hb)
theorem nle {a b : Nat} (ha : a < 2 ^ 31) (hb : b < 2 ^ 31) : (nI a ≤ nI b) = (a ≤ b) := propext (nI_leI ha hb)
theorem neq {a b : Nat} (ha : a < 2 ^ 31) (hb : b < 2 ^ 31) : (nI a = nI b) = (a = b) := propext (nI_eq ha hb)
theorem nadd (a b : Nat) : nI a + nI b = nI (a + b) := nI_add a b
theorem nmul (a b : Nat) : nI a * nI b = nI (a * b) := pk_mul a b
theorem nsub {a b : Nat} (h : b ≤ a) : nI a - nI b = nI (a - b) := pk_sub h
theorem npred (k : Nat) : nI (k + 1) + -nI 1 = nI k := pk_m1 k
theorem npred' {k : Nat} (h : 0 < k) : nI k + -nI 1 = nI (k - 1) := by
  obtain ⟨j, rfl⟩ : ∃ j, k = j + 1 := ⟨k - 1, by omega⟩
  exact npred j
theorem ndivI {a b : Nat} (ha : a < 2 ^ 31) (h0 : 0 < b) (hb : b < 2 ^ 31) : zdivI (nI a) (nI b) = some (nI (a / b)) := by
  unfold zdivI
  rw [if_neg (nI_ne0 h0 hb), pk_div ha h0 hb]
theorem nremI {a b : Nat} (ha : a < 2 ^ 31) (h0 : 0 < b) (hb : b < 2 ^ 31) : zremI (nI a) (nI b) = some (nI (a % b)) := by
  unfold zremI
  rw [if_neg (nI_ne0 h0 hb), pk_rem ha h0 hb]
theorem nIof {x : Int32} (h : 0 ≤ x) : ∃ k : Nat, k < 2 ^ 31 ∧ x = nI k := nI_of (Int32.not_lt.mpr h)
theorem okE_of {e : Nat} (he : e < 120) : (((((goalN e 0 < 5 ∧ goalN e 1 < 5) ∧ goalN e 2 < 5) ∧ goalN e 3 < 5) ∧ goalN e 4 < 5) ∧ rankN (keyOf (goalN e 1) (goalN e 2) (goalN e 3) (goalN e 4)) = e) ∧ keyOf (goalN e 1) (goalN e 2) (goalN e 3) (goalN e 4) < 625 ∧ invN e < 120 ∧ mulN e (invN e) = 0 ∧ mulN (invN e) e = 0 ∧ mulN e 0 = e ∧ mulN 0 e = e := by
  have h := all_of okE_all he
  simp only [okE, Nat.blt_eq, Nat.beq_eq, Bool.and_eq_true] at h
  obtain ⟨⟨⟨⟨⟨⟨⟨⟨⟨⟨⟨h1, h2⟩, h3⟩, h4⟩, h5⟩, h6⟩, h7⟩, h8⟩, h9⟩, h10⟩, h11⟩, h12⟩ := h
  exact ⟨⟨⟨⟨⟨⟨h1, h2⟩, h3⟩, h4⟩, h5⟩, h6⟩, h7, h8, h9, h10, h11, h12⟩
theorem five {p : Nat} (hp : p < 5) : p = 0 ∨ p = 1 ∨ p = 2 ∨ p = 3 ∨ p = 4 := by omega
theorem goal_lt {e p : Nat} (he : e < 120) (hp : p < 5) : goalN e p < 5 := by
  obtain ⟨⟨⟨⟨⟨⟨h1, h2⟩, h3⟩, h4⟩, h5⟩, -⟩, -⟩ := okE_of he
  rcases five hp with rfl | rfl | rfl | rfl | rfl <;> assumption
theorem rank_key {e : Nat} (he : e < 120) : rankN (keyOf (goalN e 1) (goalN e 2) (goalN e 3) (goalN e 4)) = e := (okE_of he).1.2
theorem key_lt {e : Nat} (he : e < 120) : keyOf (goalN e 1) (goalN e 2) (goalN e 3) (goalN e 4) < 625 := (okE_of he).2.1
theorem inv_lt {e : Nat} (he : e < 120) : invN e < 120 := (okE_of he).2.2.1
theorem mul_inv {e : Nat} (he : e < 120) : mulN e (invN e) = 0 := (okE_of he).2.2.2.1
theorem inv_mul {e : Nat} (he : e < 120) : mulN (invN e) e = 0 := (okE_of he).2.2.2.2.1
theorem mul_0 {e : Nat} (he : e < 120) : mulN e 0 = e := (okE_of he).2.2.2.2.2.1
theorem zero_mul' {e : Nat} (he : e < 120) : mulN 0 e = e := (okE_of he).2.2.2.2.2.2
theorem okM_of {a b : Nat} (ha : a < 120) (hb : b < 120) : mulN a b < 120 ∧ goalN (mulN a b) 0 = goalN b (goalN a 0) ∧ goalN (mulN a b) 1 = goalN b (goalN a 1) ∧ goalN (mulN a b) 2 = goalN b (goalN a 2) ∧ goalN (mulN a b) 3 = goalN b (goalN a 3) ∧ goalN (mulN a b) 4 = goalN b (goalN a 4) := by
  have h := all_of (all_of okM_all ha) hb
  simp only [okM, Nat.blt_eq, Nat.beq_eq, Bool.and_eq_true] at h
  obtain ⟨⟨⟨⟨⟨h1, h2⟩, h3⟩, h4⟩, h5⟩, h6⟩ := h
  exact ⟨h1, h2, h3, h4, h5, h6⟩
theorem mul_lt {a b : Nat} (ha : a < 120) (hb : b < 120) : mulN a b < 120 := (okM_of ha hb).1
theorem mul_goal {a b p : Nat} (ha : a < 120) (hb : b < 120) (hp : p < 5) : goalN (mulN a b) p = goalN b (goalN a p) := by
  obtain ⟨-, h1, h2, h3, h4, h5⟩ := okM_of ha hb
  rcases five hp with rfl | rfl | rfl | rfl | rfl <;> assumption
theorem goal_ext {a b : Nat} (ha : a < 120) (hb : b < 120) (h : ∀ p, p < 5 → goalN a p = goalN b p) : a = b := by
  rw [← rank_key ha, ← rank_key hb, h 1 (by omega), h 2 (by omega), h 3 (by omega), h 4 (by omega)]
theorem mul_assoc' {a b c : Nat} (ha : a < 120) (hb : b < 120) (hc : c < 120) : mulN (mulN a b) c = mulN a (mulN b c) := by
  refine goal_ext (mul_lt (mul_lt ha hb) hc) (mul_lt ha (mul_lt hb hc)) fun p hp => ?_
  rw [mul_goal (mul_lt ha hb) hc hp, mul_goal ha hb hp, mul_goal ha (mul_lt hb hc) hp, mul_goal hb hc (goal_lt ha hp)]
theorem mul_cancel {a b c : Nat} (ha : a < 120) (hb : b < 120) (hc : c < 120) (h : mulN a b = mulN a c) : b = c := by
  have h1 : mulN (invN a) (mulN a b) = mulN (invN a) (mulN a c) := by rw [h]
  rwa [← mul_assoc' (inv_lt ha) ha hb, ← mul_assoc' (inv_lt ha) ha hc, inv_mul ha, zero_mul' hb, zero_mul' hc] at h1
theorem mul_eq0 {a b : Nat} (ha : a < 120) (hb : b < 120) : mulN a b = 0 ↔ b = invN a := by
  constructor
  · intro h
    exact mul_cancel ha hb (inv_lt ha) (h.trans (mul_inv ha).symm)
  · rintro rfl
    exact mul_inv ha
theorem inv_inv {a : Nat} (ha : a < 120) : invN (invN a) = a := ((mul_eq0 (inv_lt ha) ha).mp (inv_mul ha)).symm
def powN (a : Nat) : Nat → Nat
  | 0 => 0
  | k + 1 => mulN (powN a k) a
def okP (a : Nat) : Bool := Nat.blt 0 (ordN a) && Nat.blt (ordN a) 7 && Nat.beq (powN a (ordN a)) 0 && (List.range (ordN a)).all (fun k => Nat.beq k 0 || !Nat.beq (powN a k) 0) && Nat.beq (powN a (ordN a - 1)) (invN a)
theorem okP_all : (List.range 120).all okP = true := by decide +kernel
theorem okP_of {a : Nat} (ha : a < 120) : 0 < ordN a ∧ ordN a < 7 ∧ powN a (ordN a) = 0 ∧ (∀ k, 0 < k → k < ordN a → powN a k ≠ 0) ∧ powN a (ordN a - 1) = invN a := by
  have h := all_of okP_all ha
  simp only [okP, Nat.blt_eq, Nat.beq_eq, Bool.and_eq_true] at h
  obtain ⟨⟨⟨⟨h1, h2⟩, h3⟩, h4⟩, h5⟩ := h
  refine ⟨h1, h2, h3, fun k h0 hk e => ?_, h5⟩
  have h6 := all_of h4 hk
  rw [e] at h6
  have : k ≠ 0 := by omega
  simp [Nat.beq_eq, this] at h6
theorem pow_lt {a : Nat} (ha : a < 120) : ∀ k, powN a k < 120
  | 0 => Nat.le_of_ble_eq_true rfl
  | k + 1 => mul_lt (pow_lt ha k) ha
def GrpAt (h : zH) (g : Nat) : Prop := hM h g = some (.inr (2, [.ref (g + 1), .ref (g + 2)])) ∧ (∃ f : Nat → Int32, hM h (g + 1) = some (.inl (0, 600, .inl f)) ∧ ∀ i, i < 600 → f i = nI ((gT >>> (3 * i)) % 8)) ∧ (∃ f : Nat → Int32, hM h (g + 2) = some (.inl (0, 625, .inl f)) ∧ ∀ i, i < 625 → f i = nI (rankN i))
section XGRP
variable {h : zH} {g N : Nat}
theorem x_goal (hG : GrpAt h g) {e p : Nat} (he : e < 120) (hp : p < 5) : f_X2_goal N g (nI e) (nI p) h = some (nI (goalN e p), h) := by
  obtain ⟨h1, ⟨f, h2, h3⟩, -⟩ := hG
  have e1 : gA h g 2 0 = some (g + 1) := gA_of' h1 rfl
  have e2 : ldI h (g + 1) (nI (e * 5 + p)) = some (f (e * 5 + p)) := ldI_of' h2 (by omega) (by omega)
  simp (disch := omega) only [f_X2_goal, nlit, nlt, nle, nadd, nmul, if_pos, if_neg, e1, e2, Option.bind_some, h3]
  rw [goalN, Nat.mul_comm e 5]
theorem x_key {k q : Nat} (hq : q ≤ 4) (hk : k < 200) : f_X2_longerKey N g (nI k) (nI q) h = some (nI (5 * k + (4 - q)), h) := by
  simp (disch := omega) only [f_X2_longerKey, nlit, nadd, nmul, nsub]
  rw [show k * 5 + 5 - 1 - q = 5 * k + (4 - q) by omega]
theorem x_withKey (hG : GrpAt h g) {k : Nat} (hk : k < 625) : f_X2_withKey N g (nI k) h = some (nI (rankN k), h) := by
  obtain ⟨h1, -, ⟨f, h2, h3⟩⟩ := hG
  have e1 : gA h g 2 1 = some (g + 2) := gA_of' h1 rfl
  have e2 : ldI h (g + 2) (nI k) = some (f k) := ldI_of' h2 (by omega) (by omega)
  simp (disch := omega) only [f_X2_withKey, nlit, nlt, nle, if_pos, if_neg, e1, e2, Option.bind_some, h3]
theorem x_times (hG : GrpAt h g) (hN : 5 < N) {a b : Nat} (ha : a < 120) (hb : b < 120) : f_X2_times N g (nI a) (nI b) h = some (nI (mulN a b), h) := by
  obtain ⟨n, rfl⟩ : ∃ n, N = n + 5 := ⟨N - 5, by omega⟩
  have o := fun (F : Option (Int32 × zH)) => onO_of' (F := F) hG.1
  have g1 := goal_lt ha (p := 1) (by omega)
  have g2 := goal_lt ha (p := 2) (by omega)
  have g3 := goal_lt ha (p := 3) (by omega)
  have g4 := goal_lt ha (p := 4) (by omega)
  have k1 := goal_lt hb g1
  have k2 := goal_lt hb g2
  have k3 := goal_lt hb g3
  have k4 := goal_lt hb g4
  simp (disch := omega) only [f_X2_times, f_X2_times_l5, nlit, nlt, nle, if_pos, if_neg, o, x_goal hG, x_key, npred, Option.bind_some, x_withKey hG]
  have e9 : ∀ x y z w : Nat, 5 * (5 * (5 * (5 * 0 + x) + y) + z) + w = ((x * 5 + y) * 5 + z) * 5 + w := fun x y z w => by omega
  rw [mulN, keyOf, e9]
theorem x_opposite (hG : GrpAt h g) (hN : 200 < N) {a : Nat} (ha : a < 120) : f_X2_opposite N g (nI a) h = some (nI (invN a), h) := by
  obtain ⟨o1, o2, o3, o4, o5⟩ := okP_of ha
  have o := fun (F : Option (Int32 × zH)) => onO_of' (F := F) hG.1
  have key : ∀ (j n i : Nat), i + j + 1 = ordN a → j < n → f_X2_opposite_l4 N g (nI a) n (nI (powN a i)) (nI i) h = some (nI (invN a), h) := by
    intro j
    induction j with
    | zero =>
      intro n i hi hn
      obtain ⟨n, rfl⟩ : ∃ m, n = m + 1 := ⟨n - 1, by omega⟩
      have hp := pow_lt ha i
      have e : mulN (powN a i) a = 0 := by
        have : powN a (i + 1) = 0 := by rw [hi]; exact o3
        exact this
      simp (disch := omega) only [f_X2_opposite_l4, nlit, nle, if_pos, if_neg, o, x_times (N := N) hG (by omega) hp ha, Option.bind_some, e]
      rw [if_pos trivial, ← o5, ← hi]
      simp
    | succ j ih =>
      intro n i hi hn
      obtain ⟨n, rfl⟩ : ∃ m, n = m + 1 := ⟨n - 1, by omega⟩
      have hp := pow_lt ha i
      have e : mulN (powN a i) a ≠ 0 := o4 (i + 1) (by omega) (by omega)
      have hp1 := mul_lt hp ha
      simp (disch := omega) only [f_X2_opposite_l4, nlit, nle, neq, nadd, if_pos, if_neg, o, x_times (N := N) hG (by omega) hp ha, Option.bind_some]
      exact ih n (i + 1) (by omega) (by omega)
  have := key (ordN a - 1) N 0 (by omega) (by omega)
  exact this
theorem x_period (hG : GrpAt h g) (hN : 200 < N) {a : Nat} (ha : a < 120) : f_X2_period N g (nI a) h = some (nI (ordN a), h) := by
  obtain ⟨o1, o2, o3, o4, o5⟩ := okP_of ha
  have o := fun (F : Option (Int32 × zH)) => onO_of' (F := F) hG.1
  have key : ∀ (j n i : Nat), i + j = ordN a → 0 < i → j < n → f_X2_period_l4 N g (nI a) n (nI (powN a i)) (nI i) h = some (nI (ordN a), h) := by
    intro j
    induction j with
    | zero =>
      intro n i hi h0 hn
      obtain ⟨n, rfl⟩ : ∃ m, n = m + 1 := ⟨n - 1, by omega⟩
      have e : powN a i = 0 := by rw [show i = ordN a by omega]; exact o3
      rw [f_X2_period_l4, e, if_pos nI_0, show i = ordN a by omega]
    | succ j ih =>
      intro n i hi h0 hn
      obtain ⟨n, rfl⟩ : ∃ m, n = m + 1 := ⟨n - 1, by omega⟩
      have hp := pow_lt ha i
      have e : powN a i ≠ 0 := o4 i (by omega) (by omega)
      simp (disch := omega) only [f_X2_period_l4, nlit, nle, neq, nadd, if_pos, if_neg, o, x_times (N := N) hG (by omega) hp ha, Option.bind_some]
      exact ih n (i + 1) (by omega) (by omega) (by omega)
  have h1 : powN a 1 = a := by show mulN 0 a = a; exact zero_mul' ha
  have := key (ordN a - 1) N 1 (by omega) (by omega) (by omega)
  rw [h1] at this
  exact this
end XGRP

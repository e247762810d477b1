def xL (n : Nat) : Nat → Nat → Nat → Nat → Option Nat
  | 0, rest, seen, key => if rest = 0 ∧ seen = 31 then some (rankN key) else none
  | p + 1, rest, seen, key => if p < n then (if rest % 10 = 0 ∨ n < rest % 10 then none else xL n p (rest / 10) (seen ||| 1 <<< (rest % 10 - 1)) (if 0 < p then 5 * key + (4 - (rest % 10 - 1)) else key)) else xL n p rest (seen ||| 1 <<< p) (if 0 < p then 5 * key + (4 - p) else key)
def mL (n : Nat) : Nat → Nat → Nat → Nat → Bool
  | 0, _, _, _ => false
  | f + 1, mask, v, many => if v = 0 then (Nat.beq many n && Nat.beq mask (2 ^ (n + 1) - 2)) else if v % 10 = 0 ∨ n < v % 10 then false else mL n f (mask ||| 1 <<< (v % 10)) (v / 10) (many + 1)
def mE (n v : Nat) : Bool := if v < 12 ∨ 54321 < v then false else mL n 8 0 v 0
/-- the element that a number tells -/
def eltN (n v : Nat) : Option Nat := xL n 5 v 0 0
def okV (n v : Nat) : Bool := match eltN n v with
  | none => !mE n v
  | some e => mE n v && Nat.blt e (fctN n) && Nat.beq (numN n e) v
theorem okV2 : (List.range 100).all (okV 2) = true := by decide +kernel
theorem okV3 : (List.range 1000).all (okV 3) = true := by decide +kernel
theorem okV4 : (List.range 10000).all (okV 4) = true := by decide +kernel
theorem okV5 : (List.range 54322).all (okV 5) = true := by decide +kernel
theorem xL_lt {n : Nat} : ∀ (p rest seen key e : Nat), xL n p rest seen key = some e → rest < 10 ^ (min p n)
  | 0, rest, seen, key, e, h => by
    unfold xL at h
    split at h
    · next hc => rw [hc.1]; exact Nat.pos_of_ne_zero (by simp)
    · cases h
  | p + 1, rest, seen, key, e, h => by
    unfold xL at h
    split at h
    · next hp =>
      split at h
      · cases h
      · have ih := xL_lt p _ _ _ _ h
        rw [show min (p + 1) n = p + 1 by omega, Nat.pow_succ]
        rw [show min p n = p by omega] at ih
        omega
    · next hp =>
      have ih := xL_lt p _ _ _ _ h
      rw [show min (p + 1) n = n by omega]
      rw [show min p n = n by omega] at ih
      exact ih
theorem xL_max : ∀ (p rest seen key e : Nat), p ≤ 5 → xL 5 p rest seen key = some e → rest ≤ 55555 / 10 ^ (5 - p)
  | 0, rest, seen, key, e, hp, h => by
    unfold xL at h
    split at h
    · next hc => rw [hc.1]; exact Nat.zero_le _
    · cases h
  | p + 1, rest, seen, key, e, hp, h => by
    unfold xL at h
    rw [if_pos (by omega)] at h
    split at h
    · cases h
    · next hc =>
      have ih := xL_max p _ _ _ _ (by omega) h
      rcases (show p = 0 ∨ p = 1 ∨ p = 2 ∨ p = 3 ∨ p = 4 by omega) with rfl | rfl | rfl | rfl | rfl <;> simp at ih ⊢ <;> omega
theorem xT {v : Nat} (e : Nat) (h : eltN 5 v = some e) : v ≤ 55555 := by
  have := xL_max 5 _ _ _ _ (Nat.le_refl _) h
  simpa using this
theorem mL_lt {n : Nat} : ∀ (f mask v many : Nat), mL n f mask v many = true → v < 10 ^ (n - many) ∧ many ≤ n
  | 0, mask, v, many, h => by simp [mL] at h
  | f + 1, mask, v, many, h => by
    unfold mL at h
    split at h
    · next hv =>
      simp only [Bool.and_eq_true, Nat.beq_eq] at h
      rw [hv, h.1]
      simp
    · split at h
      · cases h
      · obtain ⟨h1, h2⟩ := mL_lt f _ _ _ h
        refine ⟨?_, by omega⟩
        rw [show n - many = (n - (many + 1)) + 1 by omega, Nat.pow_succ]
        omega
theorem okV_all {n : Nat} (hn : inN n) (v : Nat) : okV n v = true := by
  have key : ∀ m, 10 ^ n ≤ m → okV n m = true := by
    intro m hm
    unfold okV
    have h1 : eltN n m = none := by
      cases h : eltN n m with
      | none => rfl
      | some e =>
        have := xL_lt _ _ _ _ _ h
        rw [show min 5 n = n by rcases hn with rfl | rfl | rfl | rfl <;> rfl] at this
        omega
    have h2 : mE n m = false := by
      unfold mE
      split
      · rfl
      · cases h : mL n 8 0 m 0 with
        | false => rfl
        | true =>
          have := (mL_lt _ _ _ _ h).1
          rw [Nat.sub_zero] at this
          omega
    rw [h1, h2]
    rfl
  rcases Nat.lt_or_ge v (10 ^ n) with hv | hv
  · rcases hn with rfl | rfl | rfl | rfl
    · exact all_of okV2 hv
    · exact all_of okV3 hv
    · exact all_of okV4 hv
    · rcases Nat.lt_or_ge v 54322 with h1 | h1
      · exact all_of okV5 h1
      · unfold okV
        have h2 : mE 5 v = false := by unfold mE; rw [if_pos (Or.inr (by omega))]
        have h3 : eltN 5 v = none := by
          have hall : (List.range 2000).all (fun k => (eltN 5 (54322 + k)).isNone) = true := by decide +kernel
          rcases Nat.lt_or_ge v 56322 with h4 | h4
          · have := all_of hall (i := v - 54322) (by omega)
            rw [show 54322 + (v - 54322) = v by omega] at this
            exact Option.isNone_iff_eq_none.mp this
          · cases h : eltN 5 v with
            | none => rfl
            | some e => exact absurd (xT _ h) (by omega)
        rw [h2, h3]
        rfl
  · exact key v hv

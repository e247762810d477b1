theorem b2_t' : b2 true = nI 1 := rfl
theorem b2_f' : b2 false = nI 0 := rfl
theorem zB_0' : zB (nI 0) = some (nI 0) := zB_0
theorem zB_1' : zB (nI 1) = some (nI 1) := zB_1
/-- an int that tells a place before k -/
def inP (x : Int32) (k : Nat) : Prop := ∃ v, v < k ∧ x = nI v
theorem inP_cases (x : Int32) (k : Nat) : inP x k ∨ (¬ inP x k ∧ (x < 0 ∨ ∃ v : Nat, v < 2 ^ 31 ∧ k ≤ v ∧ x = nI v)) := by
  by_cases h : inP x k
  · exact Or.inl h
  · refine Or.inr ⟨h, ?_⟩
    rcases i32_cases x with h1 | ⟨v, hv, rfl⟩
    · exact Or.inl h1
    · refine Or.inr ⟨v, hv, ?_, rfl⟩
      rcases Nat.lt_or_ge v k with h2 | h2
      · exact absurd ⟨v, h2, rfl⟩ h
      · exact h2
def turnN (d : Nat → Nat) : Nat → Nat := upN d 4 ((d 4 + 1) % d 1)
def lotN (d : Nat → Nat) : Nat → Nat := upN (upN (upN (upN d 3 (d 3 + 1)) 5 0) 7 0) 6 0
/-- the bids' product is neutral -/
def winN (d : Nat → Nat) : Bool := Nat.blt 0 (d 5) && Nat.beq (prodF (bidE d) (d 5) 0 0) 0
theorem winN_iff (d : Nat → Nat) : winN d = true ↔ (0 < d 5 ∧ prodF (bidE d) (d 5) 0 0 = 0) := by
  simp [winN]
/-- the winner is paid, the next lot comes -/
def payN (d : Nat → Nat) (p : Nat) : Nat → Nat := lotN (upN (upN d (11 + 19 * p) (d (11 + 19 * p) + (d (106 + d 3) + d 6))) (11 + 19 * p + 2) (d (11 + 19 * p + 2) + 1))
def finN (d : Nat → Nat) (p : Nat) : Nat → Nat := if winN d then turnN (payN (upN d 7 0) p) else turnN (upN d 7 0)
def passN (d : Nat → Nat) : Nat → Nat := if d 7 + 1 = d 1 then turnN (lotN (upN (upN d 7 (d 7 + 1)) 8 (d 8 + d 6))) else turnN (upN d 7 (d 7 + 1))
def giveN (d : Nat → Nat) (p e b : Nat) : Nat → Nat := upN (upN (upN d (11 + 19 * p + 3 + 2 * d (11 + 19 * p + 1)) e) (11 + 19 * p + 3 + 2 * d (11 + 19 * p + 1) + 1) b) (11 + 19 * p + 1) (d (11 + 19 * p + 1) + 1)
def RemH (H H' : Nat → Nat → Int32) (D : Nat → Int32) (q : Nat) : Prop := (∀ i, i < 1378 → H' (q - forg q) i = D i) ∧ (∀ j i, j < q - forg q → i < 1378 → H' j i = H (j + forg q) i)
theorem bidE_up {d : Nat → Nat} {k x : Nat} (hk : k ≠ 0) (hk2 : k < 118) : bidE (upN d k x) = bidE d := by
  funext j
  unfold bidE
  rw [upN_ne (by omega), upN_ne (by omega)]
section M63
variable {h : zH} {m N : Nat} {S B D E : Nat → Int32} {H : Nat → Nat → Int32} {J : Nat → Int64} {L U Z W : Nat → Int32} {d : Nat → Nat}
theorem i32_neg {x : Int32} (hx : x < 0) : x < nI 0 := hx
end M63

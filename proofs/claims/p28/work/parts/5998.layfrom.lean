def AZ (Z : Nat → Int32) (n m e : Nat) : Bool := decide (¬ Z (120 * m + piN n e) = nI 0)
def clrZ (Z : Nat → Int32) (i : Nat) : Nat → Int32 := fun j => if j < i then nI 0 else Z j
theorem clrZ_step (Z : Nat → Int32) (i : Nat) : upd (clrZ Z i) i (nI 0) = clrZ Z (i + 1) := by
  funext j
  unfold clrZ
  by_cases hj : j = i
  · subst hj
    rw [upS_eq, if_pos (by omega)]
  · rw [upS_ne hj]
    by_cases h2 : j < i
    · rw [if_pos h2, if_pos (by omega)]
    · rw [if_neg h2, if_neg (by omega)]
theorem AZ_upd {Z : Nat → Int32} {n m e m' e' : Nat} (hn : inN n) (he : e < fctN n) (he' : e' < fctN n) : AZ (upd Z (120 * m + piN n e) (nI 1)) n m' e' = true ↔ AZ Z n m' e' = true ∨ (m' = m ∧ e' = e) := by
  have p1 := pi_lt hn he
  have p2 := pi_lt hn he'
  have hf := fct_le hn
  unfold AZ
  rw [decide_eq_true_eq, decide_eq_true_eq]
  by_cases hi : 120 * m' + piN n e' = 120 * m + piN n e
  · rw [hi, upS_eq]
    have h1 : m' = m := by omega
    have h2 : e' = e := pi_inj hn he' he (by omega)
    exact ⟨fun _ => Or.inr ⟨h1, h2⟩, fun _ => by decide⟩
  · rw [upS_ne hi]
    constructor
    · exact Or.inl
    · rintro (h1 | ⟨rfl, rfl⟩)
      · exact h1
      · exact absurd rfl hi
section M998
variable {h : zH} {m N : Nat} {S B E : Nat → Int32} {H : Nat → Nat → Int32} {J : Nat → Int64} {L U Z W : Nat → Int32} {d : Nat → Nat}
end M998

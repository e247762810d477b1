theorem cntE_le (n v : Nat) : ∀ M, cntE n v M ≤ M
  | 0 => Nat.le_refl 0
  | M + 1 => by
    have := cntE_le n v M
    unfold cntE
    split <;> omega
theorem cntE_step {n v : Nat} (hn : inN n) : ∀ M, M ≤ fctN n → (∃ e, e < M ∧ numN n e = v) ∧ cntE n (v + 1) M = cntE n v M + 1 ∨ (¬ ∃ e, e < M ∧ numN n e = v) ∧ cntE n (v + 1) M = cntE n v M
  | 0, _ => Or.inr ⟨fun ⟨e, h, _⟩ => absurd h (Nat.not_lt_zero e), rfl⟩
  | M + 1, hM => by
    have ih := cntE_step (v := v) hn M (by omega)
    have u1 : ∀ w, cntE n w (M + 1) = cntE n w M + (if Nat.blt (numN n M) w = true then 1 else 0) := fun _ => rfl
    rw [u1, u1]
    by_cases hv : numN n M = v
    · have h0 : ¬ ∃ e, e < M ∧ numN n e = v := fun ⟨e, h1, h2⟩ => by
        have := (num_inj hn (show e < fctN n by omega) (show M < fctN n by omega)).mp (h2.trans hv.symm)
        omega
      have b1 : Nat.blt (numN n M) (v + 1) = true := by rw [Nat.blt_eq]; omega
      have b2 : ¬ Nat.blt (numN n M) v = true := by rw [Nat.blt_eq]; omega
      rw [if_pos b1, if_neg b2]
      rcases ih with ⟨h1, -⟩ | ⟨-, h2⟩
      · exact absurd h1 h0
      · exact Or.inl ⟨⟨M, by omega, hv⟩, by omega⟩
    · have b1 : (if Nat.blt (numN n M) (v + 1) = true then 1 else 0) = (if Nat.blt (numN n M) v = true then 1 else 0) := by
        by_cases hlt : numN n M < v
        · rw [if_pos (by rw [Nat.blt_eq]; omega), if_pos (by rw [Nat.blt_eq]; omega)]
        · rw [if_neg (by rw [Nat.blt_eq]; omega), if_neg (by rw [Nat.blt_eq]; omega)]
      rw [b1]
      rcases ih with ⟨⟨e, h1, h2⟩, h3⟩ | ⟨h1, h2⟩
      · exact Or.inl ⟨⟨e, by omega, h2⟩, by omega⟩
      · refine Or.inr ⟨fun ⟨e, h3, h4⟩ => h1 ⟨e, ?_, h4⟩, by omega⟩
        have : e ≠ M := fun h9 => hv (h9 ▸ h4)
        omega
theorem cntE_mono {n v w : Nat} (h : v ≤ w) : ∀ M, cntE n v M ≤ cntE n w M
  | 0 => Nat.le_refl 0
  | M + 1 => by
    have := cntE_mono (n := n) h M
    unfold cntE
    by_cases h1 : numN n M < v
    · rw [if_pos (by rw [Nat.blt_eq]; omega), if_pos (by rw [Nat.blt_eq]; omega)]
      omega
    · rw [if_neg (by rw [Nat.blt_eq]; omega)]
      split <;> omega
theorem cntE_all {n v : Nat} : ∀ M, (∀ e, e < M → numN n e < v) → cntE n v M = M
  | 0, _ => rfl
  | M + 1, h => by
    have := cntE_all (n := n) M (fun e he => h e (by omega))
    unfold cntE
    rw [if_pos (by rw [Nat.blt_eq]; exact h M (by omega)), this]
theorem cntE_none {n v : Nat} : ∀ M, (∀ e, e < M → v ≤ numN n e) → cntE n v M = 0
  | 0, _ => rfl
  | M + 1, h => by
    have := cntE_none (n := n) M (fun e he => h e (by omega))
    have h2 := h M (by omega)
    unfold cntE
    rw [if_neg (by rw [Nat.blt_eq]; omega), this]
theorem pi_succ {n e : Nat} (hn : inN n) (he : e < fctN n) : cntE n (numN n e + 1) (fctN n) = piN n e + 1 := by
  rcases cntE_step (v := numN n e) hn (fctN n) (Nat.le_refl _) with ⟨-, h⟩ | ⟨h, -⟩
  · exact h
  · exact absurd ⟨e, he, rfl⟩ h
theorem pi_lt {n e : Nat} (hn : inN n) (he : e < fctN n) : piN n e < fctN n := by
  have h1 := pi_succ hn he
  have h2 := cntE_le n (numN n e + 1) (fctN n)
  omega
theorem pi_inj {n e f : Nat} (hn : inN n) (he : e < fctN n) (hf : f < fctN n) (h : piN n e = piN n f) : e = f := by
  rcases Nat.lt_trichotomy (numN n e) (numN n f) with h1 | h1 | h1
  · have h2 := pi_succ hn he
    have h3 := cntE_mono (n := n) (show numN n e + 1 ≤ numN n f by omega) (fctN n)
    have : piN n f = cntE n (numN n f) (fctN n) := rfl
    omega
  · exact (num_inj hn he hf).mp h1
  · have h2 := pi_succ hn hf
    have h3 := cntE_mono (n := n) (show numN n f + 1 ≤ numN n e by omega) (fctN n)
    have : piN n e = cntE n (numN n e) (fctN n) := rfl
    omega
def numB (n : Nat) : Bool := (List.range (fctN n)).all fun e => Nat.ble (numN n 0) (numN n e) && Nat.ble (numN n e) 54321
theorem numB2 : numB 2 = true := by decide +kernel
theorem numB3 : numB 3 = true := by decide +kernel
theorem numB4 : numB 4 = true := by decide +kernel
theorem numB5 : numB 5 = true := by decide +kernel
theorem num_bd {n e : Nat} (hn : inN n) (he : e < fctN n) : numN n 0 ≤ numN n e ∧ numN n e ≤ 54321 := by
  have : numB n = true := by
    rcases hn with rfl | rfl | rfl | rfl
    · exact numB2
    · exact numB3
    · exact numB4
    · exact numB5
  have h := all_of this he
  rw [Bool.and_eq_true, Nat.ble_eq, Nat.ble_eq] at h
  exact h
def permB (n : Nat) : Bool := ((List.range (fctN n)).map (piN n)).isPerm (List.range (fctN n))
theorem permB2 : permB 2 = true := by decide +kernel
theorem permB3 : permB 3 = true := by decide +kernel
theorem permB4 : permB 4 = true := by decide +kernel
theorem permB5 : permB 5 = true := by decide +kernel
theorem pi_perm {n : Nat} (hn : inN n) : ((List.range (fctN n)).map (piN n)).Perm (List.range (fctN n)) := by
  have : permB n = true := by
    rcases hn with rfl | rfl | rfl | rfl
    · exact permB2
    · exact permB3
    · exact permB4
    · exact permB5
  exact List.isPerm_iff.mp this
theorem pi_sur {n i : Nat} (hn : inN n) (hi : i < fctN n) : ∃ e, e < fctN n ∧ piN n e = i := by
  have h := (pi_perm hn).mem_iff.mpr (List.mem_range.mpr hi)
  obtain ⟨e, h1, h2⟩ := List.mem_map.mp h
  exact ⟨e, List.mem_range.mp h1, h2⟩
section M997
variable {h : zH} {m N : Nat} {S B E : Nat → Int32} {H : Nat → Nat → Int32} {J : Nat → Int64} {L U Z W : Nat → Int32} {d : Nat → Nat}
end M997

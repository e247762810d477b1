theorem nltT {a b : Nat} (hb : b < 2 ^ 31) (h : a < b) : (nI a < nI b) = True := by rw [nlt (by omega) hb]; exact eq_true h
theorem nltF {a b : Nat} (ha : a < 2 ^ 31) (h : b ≤ a) : (nI a < nI b) = False := by rw [nlt ha (by omega)]; exact eq_false (by omega)
theorem nleT {a b : Nat} (hb : b < 2 ^ 31) (h : a ≤ b) : (nI a ≤ nI b) = True := by rw [nle (by omega) hb]; exact eq_true h
theorem nleF {a b : Nat} (ha : a < 2 ^ 31) (h : b < a) : (nI a ≤ nI b) = False := by rw [nle ha (by omega)]; exact eq_false (by omega)
theorem neqT {a b : Nat} (h : a = b) : (nI a = nI b) = True := by rw [h]; exact eq_self _
theorem neqF {a b : Nat} (ha : a < 2 ^ 31) (hb : b < 2 ^ 31) (h : a ≠ b) : (nI a = nI b) = False := by rw [neq ha hb]; exact eq_false h
section M73
variable {h : zH} {m N : Nat} {S B D E : Nat → Int32} {H : Nat → Nat → Int32} {J J' : Nat → Int64} {L U Z W : Nat → Int32} {d : Nat → Nat}
theorem mul_inv_iff {n a b : Nat} (hn : inN n) (ha : a < fctN n) (hb : b < fctN n) : numN n a = numN n (invN b) ↔ mulN a b = 0 := by
  have hf := fct_le hn
  rw [num_inj hn ha (inv_in hn hb), mul_eq0 (Nat.lt_of_lt_of_le ha hf) (Nat.lt_of_lt_of_le hb hf)]
  constructor
  · intro e
    rw [e, inv_inv (Nat.lt_of_lt_of_le hb hf)]
  · intro e
    rw [e, inv_inv (Nat.lt_of_lt_of_le ha hf)]
end M73

theorem nltT {a b : Nat} (hb : b < 2 ^ 31) (h : a < b) : (nI a < nI b) = True := by rw [nlt (by omega) hb]; exact eq_true h
theorem nltF {a b : Nat} (ha : a < 2 ^ 31) (h : b ≤ a) : (nI a < nI b) = False := by rw [nlt ha (by omega)]; exact eq_false (by omega)
theorem nleT {a b : Nat} (hb : b < 2 ^ 31) (h : a ≤ b) : (nI a ≤ nI b) = True := by rw [nle (by omega) hb]; exact eq_true h
theorem nleF {a b : Nat} (ha : a < 2 ^ 31) (h : b < a) : (nI a ≤ nI b) = False := by rw [nle ha (by omega)]; exact eq_false (by omega)
theorem neqT {a b : Nat} (h : a = b) : (nI a = nI b) = True := by rw [h]; exact eq_self _
theorem neqF {a b : Nat} (ha : a < 2 ^ 31) (hb : b < 2 ^ 31) (h : a ≠ b) : (nI a = nI b) = False := by rw [neq ha hb]; exact eq_false h
section M73
variable {h : zH} {m N : Nat} {S B D E : Nat → Int32} {H : Nat → Nat → Int32} {J J' : Nat → Int64} {L U Z W : Nat → Int32} {d : Nat → Nat}
end M73

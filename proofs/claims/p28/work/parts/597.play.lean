section M97m
variable {h : zH} {m N : Nat} {S B E : Nat → Int32} {H : Nat → Nat → Int32} {J : Nat → Int64} {L U Z W : Nat → Int32} {d : Nat → Nat}
end M97m
theorem playD_lo {d : Nat → Nat} {c x k : Nat} (hk : k < 11) (hk5 : k ≠ 5 ∧ k ≠ 6) (h45 : d 4 < 5) (h8 : d (11 + 19 * d 4 + 1) ≤ 8) : playD d c x k = d k := by
  unfold playD
  rw [dropN_out (by rw [bidN_lo (by omega) (by omega), payD_n]; exact h8) (by omega), bidN_lo (by omega) (by omega)]
  unfold payD
  rw [upN_ne (by omega), upN_ne (by omega)]
section M97
variable {h h' h1 : zH} {b0 K N q z : Nat} {ea : Int32} {d : Nat → Nat} {t : Nat → Nat} {hd : Nat → Nat → Nat} {hK : Nat → Nat} {ht : Nat → Nat → Nat} {B : Nat → Int32}
end M97

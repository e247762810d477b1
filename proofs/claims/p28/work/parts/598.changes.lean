theorem canD_lo {d : Nat → Nat} {c b x k : Nat} (hk : k < 11) (hk5 : k ≠ 5 ∧ k ≠ 6) (h45 : d 4 < 5) (h8 : d (11 + 19 * d 4 + 1) ≤ 8) : canD d c b x k = d k := by
  have e1 : ∀ k, (∀ p, k ≠ 11 + 19 * p) → k ≠ 6 → backD (cpayD d (d 4) x (d (118 + 3 * b + 2))) (d (118 + 3 * b)) (d (118 + 3 * b + 2)) k = d k := by
    intro k h1 h2
    unfold backD cpayD
    rw [upN_ne (h1 _), upN_ne h2, upN_ne (h1 _)]
  unfold canD
  rw [dropN_out (by rw [unbD_lo (by omega) (by omega), e1 _ (by omega) (by omega)]; exact h8) (by omega), unbD_lo (by omega) (by omega), e1 k (by omega) (by omega)]
section M98
variable {h h' h1 : zH} {b0 K N q z : Nat} {ea : Int32} {d : Nat → Nat} {t : Nat → Nat} {hd : Nat → Nat → Nat} {hK : Nat → Nat} {ht : Nat → Nat → Nat} {B : Nat → Int32}
end M98

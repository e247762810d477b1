def bidN (d : Nat → Nat) (p v x : Nat) : Nat → Nat := upN (upN (upN (upN d (118 + 3 * d 5) p) (118 + 3 * d 5 + 1) v) (118 + 3 * d 5 + 2) x) 5 (d 5 + 1)
theorem bidN_lo {d : Nat → Nat} {p v x k : Nat} (hk : k < 118) (hk5 : k ≠ 5) : bidN d p v x k = d k := by
  unfold bidN
  rw [upN_ne hk5, upN_ne (by omega), upN_ne (by omega), upN_ne (by omega)]
theorem bidN_5 (d : Nat → Nat) (p v x : Nat) : bidN d p v x 5 = d 5 + 1 := upN_eq _ _ _
theorem bidN_old {d : Nat → Nat} {p v x k : Nat} (hk : 118 ≤ k) (hk2 : k < 118 + 3 * d 5) : bidN d p v x k = d k := by
  unfold bidN
  rw [upN_ne (by omega), upN_ne (by omega), upN_ne (by omega), upN_ne (by omega)]
theorem bidN_new (d : Nat → Nat) (p v x : Nat) : bidN d p v x (118 + 3 * d 5) = p ∧ bidN d p v x (118 + 3 * d 5 + 1) = v ∧ bidN d p v x (118 + 3 * d 5 + 2) = x := by
  unfold bidN
  refine ⟨?_, ?_, ?_⟩
  · rw [upN_ne (by omega), upN_ne (by omega), upN_ne (by omega), upN_eq]
  · rw [upN_ne (by omega), upN_ne (by omega), upN_eq]
  · rw [upN_ne (by omega), upN_eq]
theorem dropN_at {d : Nat → Nat} {p c k : Nat} (hk : k = 11 + 19 * p + 1) : dropN d p c k = d k - 1 := by
  subst hk
  unfold dropN
  rw [shN_out (by omega), upN_eq]
theorem dropN_out {d : Nat → Nat} {p c k : Nat} (hn : d (11 + 19 * p + 1) ≤ 8) (hk : k ≤ 11 + 19 * p ∨ k = 11 + 19 * p + 2 ∨ 11 + 19 * p + 19 ≤ k ∨ (11 + 19 * p + 3 ≤ k ∧ k < 11 + 19 * p + 3 + 2 * c)) : dropN d p c k = d k := by
  unfold dropN
  rw [shN_out (by omega), upN_ne (by omega)]
theorem dropN_in {d : Nat → Nat} {p c k : Nat} (h1 : 11 + 19 * p + 3 + 2 * c ≤ k) (h2 : k < 11 + 19 * p + 3 + 2 * (d (11 + 19 * p + 1) - 1)) : dropN d p c k = d (k + 2) := by
  unfold dropN
  rw [shN_in h1 (by omega), upN_ne (by omega)]
def bidR (R : Nat → Int32) (n : Nat) : Nat → Int32 := upd (upd (upd R 29 (nI n)) 31 (nI n)) 33 (nI n)
def bidX (X : Nat → Nat → Int32) (n p e x : Nat) : Nat → Nat → Int32 := updH (updH (updH X 29 (upd (X 29) n (nI p))) 31 (upd (X 31) n (nI e))) 33 (upd (X 33) n (nI x))
def dropR (R : Nat → Int32) (p n : Nat) : Nat → Int32 := upd (upd R (3 + 5 * p) (nI n)) (5 + 5 * p) (nI n)
def dropX (X : Nat → Nat → Int32) (p c r : Nat) : Nat → Nat → Int32 := updH (updH X (3 + 5 * p) (shI (X (3 + 5 * p)) c r 1)) (5 + 5 * p) (shI (X (5 + 5 * p)) c r 1)
section M68
variable {h : zH} {a g rl N : Nat} {T R : Nat → Int32} {X : Nat → Nat → Int32} {P Q : Nat → Int32} {d : Nat → Nat}
theorem AucR_bid {p v x : Nat} (hA : AucR d T R X P Q) (h1 : d 1 ≤ 5) (h2 : d 2 ≤ 12) (hc8 : ∀ q, q < d 1 → d (11 + 19 * q + 1) ≤ 8) : AucR (bidN d p v x) T (bidR R (d 5 + 1)) (bidX X (d 5) p (idxN (d 0) v) x) P Q := by
  obtain ⟨⟨t8, t9, t10, t11, t12, t13, t14⟩, ⟨r27, r29, r31, r33⟩, al, ab, ap⟩ := hA
  have hlo : ∀ k, k < 118 → k ≠ 5 → bidN d p v x k = d k := fun k h1 h2 => bidN_lo h1 h2
  unfold bidR bidX
  refine ⟨⟨?_, ?_, ?_, ?_, ?_, ?_, ?_⟩, ⟨?_, ?_, ?_, ?_⟩, ?_, ?_, ?_⟩
  · rw [hlo 0 (by omega) (by omega)]; exact t8
  · rw [hlo 1 (by omega) (by omega)]; exact t9
  · rw [hlo 3 (by omega) (by omega)]; exact t10
  · rw [hlo 4 (by omega) (by omega)]; exact t11
  · rw [hlo 6 (by omega) (by omega)]; exact t12
  · rw [hlo 7 (by omega) (by omega)]; exact t13
  · rw [hlo 8 (by omega) (by omega)]; exact t14
  · rw [hlo 2 (by omega) (by omega), upS_ne (by omega), upS_ne (by omega), upS_ne (by omega)]; exact r27
  · rw [bidN_5, upS_ne (by omega), upS_ne (by omega), upS_eq]
  · rw [bidN_5, upS_ne (by omega), upS_eq]
  · rw [bidN_5, upS_eq]
  · intro l hl
    rw [hlo 2 (by omega) (by omega)] at hl
    rw [hlo (106 + l) (by omega) (by omega), updH_ne (by omega), updH_ne (by omega), updH_ne (by omega)]
    exact al l hl
  · intro b hb
    rw [bidN_5] at hb
    rw [updH_ne (show 29 ≠ 33 by omega), updH_ne (show 29 ≠ 31 by omega), updH_eq, updH_ne (show 31 ≠ 33 by omega), updH_eq, updH_eq, hlo 0 (by omega) (by omega)]
    by_cases hbe : b = d 5
    · subst hbe
      obtain ⟨n1, n2, n3⟩ := bidN_new d p v x
      rw [n1, n2, n3, upS_eq, upS_eq, upS_eq]
      exact ⟨rfl, rfl, rfl⟩
    · rw [upS_ne hbe, upS_ne hbe, upS_ne hbe, bidN_old (by omega) (by omega), bidN_old (by omega) (by omega), bidN_old (by omega) (by omega)]
      exact ab b (by omega)
  · intro q hq
    rw [hlo 1 (by omega) (by omega)] at hq
    obtain ⟨q1, q2, q3, q4, q5⟩ := ap q hq
    have := hc8 q hq
    refine ⟨?_, ?_, ?_, ?_, ?_⟩
    · rw [hlo _ (by omega) (by omega)]; exact q1
    · rw [hlo _ (by omega) (by omega)]; exact q2
    · rw [hlo _ (by omega) (by omega), upS_ne (by omega), upS_ne (by omega), upS_ne (by omega)]; exact q3
    · rw [hlo _ (by omega) (by omega), upS_ne (by omega), upS_ne (by omega), upS_ne (by omega)]; exact q4
    · intro c hc
      rw [hlo _ (by omega) (by omega)] at hc
      rw [hlo _ (by omega) (by omega), hlo _ (by omega) (by omega), hlo _ (by omega) (by omega), updH_ne (by omega), updH_ne (by omega), updH_ne (by omega), updH_ne (by omega), updH_ne (by omega), updH_ne (by omega)]
      exact q5 c hc
theorem AucR_drop {p c : Nat} (hA : AucR d T R X P Q) (h1 : d 1 ≤ 5) (hp : p < d 1) (hc : c < d (11 + 19 * p + 1)) (hc8 : ∀ q, q < d 1 → d (11 + 19 * q + 1) ≤ 8) : AucR (dropN d p c) T (dropR R p (d (11 + 19 * p + 1) - 1)) (dropX X p c (d (11 + 19 * p + 1) - 1 - c)) P Q := by
  obtain ⟨⟨t8, t9, t10, t11, t12, t13, t14⟩, ⟨r27, r29, r31, r33⟩, al, ab, ap⟩ := hA
  have hn8 := hc8 p hp
  have hlo : ∀ k, k ≤ 11 → dropN d p c k = d k := fun k hk => dropN_out hn8 (by omega)
  have hhi : ∀ k, 106 ≤ k → dropN d p c k = d k := fun k hk => dropN_out hn8 (by omega)
  unfold dropR dropX
  refine ⟨⟨?_, ?_, ?_, ?_, ?_, ?_, ?_⟩, ⟨?_, ?_, ?_, ?_⟩, ?_, ?_, ?_⟩
  · rw [hlo 0 (by omega)]; exact t8
  · rw [hlo 1 (by omega)]; exact t9
  · rw [hlo 3 (by omega)]; exact t10
  · rw [hlo 4 (by omega)]; exact t11
  · rw [hlo 6 (by omega)]; exact t12
  · rw [hlo 7 (by omega)]; exact t13
  · rw [hlo 8 (by omega)]; exact t14
  · rw [hlo 2 (by omega), upS_ne (by omega), upS_ne (by omega)]; exact r27
  · rw [hlo 5 (by omega), upS_ne (by omega), upS_ne (by omega)]; exact r29
  · rw [hlo 5 (by omega), upS_ne (by omega), upS_ne (by omega)]; exact r31
  · rw [hlo 5 (by omega), upS_ne (by omega), upS_ne (by omega)]; exact r33
  · intro l hl
    rw [hlo 2 (by omega)] at hl
    rw [hhi (106 + l) (by omega), updH_ne (by omega), updH_ne (by omega)]
    exact al l hl
  · intro b hb
    rw [hlo 5 (by omega)] at hb
    rw [hlo 0 (by omega), hhi _ (by omega), hhi _ (by omega), hhi _ (by omega), updH_ne (by omega), updH_ne (by omega), updH_ne (by omega), updH_ne (by omega), updH_ne (by omega), updH_ne (by omega)]
    exact ab b hb
  · intro q hq
    rw [hlo 1 (by omega)] at hq
    obtain ⟨q1, q2, q3, q4, q5⟩ := ap q hq
    have := hc8 q hq
    rw [hlo 0 (by omega)]
    by_cases hqp : q = p
    · subst hqp
      rw [dropN_at rfl]
      refine ⟨?_, ?_, ?_, ?_, ?_⟩
      · rw [dropN_out hn8 (by omega)]; exact q1
      · rw [dropN_out hn8 (by omega)]; exact q2
      · rw [upS_ne (by omega), upS_eq]
      · rw [upS_eq]
      · intro i hi
        rw [updH_ne (show 3 + 5 * q ≠ 5 + 5 * q by omega), updH_eq, updH_eq]
        by_cases hic : i < c
        · rw [shI_out (by omega), shI_out (by omega), dropN_out hn8 (by omega), dropN_out hn8 (by omega)]
          exact q5 i (by omega)
        · rw [shI_in (by omega) (by omega), shI_in (by omega) (by omega), dropN_in (by omega) (by omega), dropN_in (by omega) (by omega)]
          have q6 := q5 (i + 1) (by omega)
          rw [show 11 + 19 * q + 3 + 2 * (i + 1) = 11 + 19 * q + 3 + 2 * i + 2 by omega] at q6
          exact q6
    · rw [dropN_out hn8 (by omega), dropN_out hn8 (by omega), dropN_out hn8 (by omega)]
      refine ⟨q1, q2, ?_, ?_, ?_⟩
      · rw [upS_ne (by omega), upS_ne (by omega)]; exact q3
      · rw [upS_ne (by omega), upS_ne (by omega)]; exact q4
      · intro i hi
        rw [dropN_out hn8 (by omega), dropN_out hn8 (by omega), updH_ne (by omega), updH_ne (by omega), updH_ne (by omega), updH_ne (by omega)]
        exact q5 i hi
end M68

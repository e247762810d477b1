def unbD (d : Nat → Nat) (b : Nat) : Nat → Nat := shN (upN d 5 (d 5 - 1)) (118 + 3 * b) (3 * (d 5 - 1 - b)) 3
theorem unbD_lo {d : Nat → Nat} {b k : Nat} (hk : k < 118) (hk5 : k ≠ 5) : unbD d b k = d k := by
  unfold unbD
  rw [shN_out (by omega), upN_ne hk5]
theorem unbD_5 (d : Nat → Nat) (b : Nat) : unbD d b 5 = d 5 - 1 := by
  unfold unbD
  rw [shN_out (by omega), upN_eq]
theorem unbD_old {d : Nat → Nat} {b k : Nat} (hk : 118 ≤ k) (hk2 : k < 118 + 3 * b) : unbD d b k = d k := by
  unfold unbD
  rw [shN_out (by omega), upN_ne (by omega)]
theorem unbD_new {d : Nat → Nat} {b k : Nat} (hk : 118 + 3 * b ≤ k) (hk2 : k < 118 + 3 * (d 5 - 1)) : unbD d b k = d (k + 3) := by
  unfold unbD
  rw [shN_in hk (by omega), upN_ne (by omega)]
def unbX (X : Nat → Nat → Int32) (b r : Nat) : Nat → Nat → Int32 := updH (updH (updH X 29 (shI (X 29) b r 1)) 31 (shI (X 31) b r 1)) 33 (shI (X 33) b r 1)
section M70
variable {h h' : zH} {a g rl N : Nat} {T R : Nat → Int32} {X : Nat → Nat → Int32} {P Q : Nat → Int32} {d : Nat → Nat}
theorem AucR_unb {b : Nat} (hA : AucR d T R X P Q) (h1 : d 1 ≤ 5) (h2 : d 2 ≤ 12) (hb : b < d 5) (hc8 : ∀ q, q < d 1 → d (11 + 19 * q + 1) ≤ 8) : AucR (unbD d b) T (bidR R (d 5 - 1)) (unbX X b (d 5 - 1 - b)) P Q := by
  obtain ⟨⟨t8, t9, t10, t11, t12, t13, t14⟩, ⟨r27, r29, r31, r33⟩, al, ab, ap⟩ := hA
  have hlo : ∀ k, k < 118 → k ≠ 5 → unbD d b k = d k := fun k h1 h2 => unbD_lo h1 h2
  unfold bidR unbX
  refine ⟨⟨?_, ?_, ?_, ?_, ?_, ?_, ?_⟩, ⟨?_, ?_, ?_, ?_⟩, ?_, ?_, ?_⟩
  · rw [hlo 0 (by omega) (by omega)]; exact t8
  · rw [hlo 1 (by omega) (by omega)]; exact t9
  · rw [hlo 3 (by omega) (by omega)]; exact t10
  · rw [hlo 4 (by omega) (by omega)]; exact t11
  · rw [hlo 6 (by omega) (by omega)]; exact t12
  · rw [hlo 7 (by omega) (by omega)]; exact t13
  · rw [hlo 8 (by omega) (by omega)]; exact t14
  · rw [hlo 2 (by omega) (by omega), upS_ne (by omega), upS_ne (by omega), upS_ne (by omega)]; exact r27
  · rw [unbD_5, upS_ne (by omega), upS_ne (by omega), upS_eq]
  · rw [unbD_5, upS_ne (by omega), upS_eq]
  · rw [unbD_5, upS_eq]
  · intro l hl
    rw [hlo 2 (by omega) (by omega)] at hl
    rw [hlo (106 + l) (by omega) (by omega), updH_ne (by omega), updH_ne (by omega), updH_ne (by omega)]
    exact al l hl
  · intro k hk
    rw [unbD_5] at hk
    rw [updH_ne (show 29 ≠ 33 by omega), updH_ne (show 29 ≠ 31 by omega), updH_eq, updH_ne (show 31 ≠ 33 by omega), updH_eq, updH_eq, hlo 0 (by omega) (by omega)]
    by_cases hkb : k < b
    · rw [shI_out (by omega), shI_out (by omega), shI_out (by omega), unbD_old (by omega) (by omega), unbD_old (by omega) (by omega), unbD_old (by omega) (by omega)]
      exact ab k (by omega)
    · rw [shI_in (by omega) (by omega), shI_in (by omega) (by omega), shI_in (by omega) (by omega), unbD_new (by omega) (by omega), unbD_new (by omega) (by omega), unbD_new (by omega) (by omega)]
      have q6 := ab (k + 1) (by omega)
      rw [show 118 + 3 * (k + 1) = 118 + 3 * k + 3 by omega] at q6
      exact q6
  · intro q hq
    rw [hlo 1 (by omega) (by omega)] at hq
    obtain ⟨q1, q2, q3, q4, q5⟩ := ap q hq
    have := hc8 q hq
    refine ⟨?_, ?_, ?_, ?_, ?_⟩
    · rw [hlo _ (by omega) (by omega)]; exact q1
    · rw [hlo _ (by omega) (by omega)]; exact q2
    · rw [hlo _ (by omega) (by omega), upS_ne (by omega), upS_ne (by omega), upS_ne (by omega)]; exact q3
    · rw [hlo _ (by omega) (by omega), upS_ne (by omega), upS_ne (by omega), upS_ne (by omega)]; exact q4
    · intro c hc
      rw [hlo _ (by omega) (by omega)] at hc
      rw [hlo _ (by omega) (by omega), hlo _ (by omega) (by omega), hlo _ (by omega) (by omega), updH_ne (by omega), updH_ne (by omega), updH_ne (by omega), updH_ne (by omega), updH_ne (by omega), updH_ne (by omega)]
      exact q5 c hc
/-- the class removes a bid from its three rows -/
theorem x_unbid (hN : 100 < N) {s b : Nat} (r29 : R 29 = nI s) (r31 : R 31 = nI s) (r33 : R 33 = nI s) (hs : s ≤ 20) (hb : b < s) : (f_X6_remove N (a + 29) (nI b) (aset h' a g rl T R X P Q) = some (aset h' a g rl T (upd R 29 (nI (s - 1))) (updH X 29 (shI (X 29) b (s - 1 - b) 1)) P Q)) ∧ (f_X6_remove N (a + 31) (nI b) (aset h' a g rl T (upd R 29 (nI (s - 1))) (updH X 29 (shI (X 29) b (s - 1 - b) 1)) P Q) = some (aset h' a g rl T (upd (upd R 29 (nI (s - 1))) 31 (nI (s - 1))) (updH (updH X 29 (shI (X 29) b (s - 1 - b) 1)) 31 (shI (X 31) b (s - 1 - b) 1)) P Q)) ∧ (f_X6_remove N (a + 33) (nI b) (aset h' a g rl T (upd (upd R 29 (nI (s - 1))) 31 (nI (s - 1))) (updH (updH X 29 (shI (X 29) b (s - 1 - b) 1)) 31 (shI (X 31) b (s - 1 - b) 1)) P Q) = some (aset h' a g rl T (bidR R (s - 1)) (unbX X b (s - 1 - b)) P Q)) := by
  refine ⟨x_remove (N := N) (h := h') (a := a) (g := g) (rl := rl) (T := T) (R := R) (X := X) (P := P) (Q := Q) hN rfl r29 (show s ≤ 20 from hs) hb, ?_, ?_⟩
  · have s5 := x_remove (N := N) (h := h') (a := a) (g := g) (rl := rl) (T := T) (R := upd R 29 (nI (s - 1))) (X := updH X 29 (shI (X 29) b (s - 1 - b) 1)) (P := P) (Q := Q) (r := 31) hN rfl (by rw [upS_ne (by omega)]; exact r31) (show s ≤ 20 from hs) hb
    rw [updH_ne (show 31 ≠ 29 by omega)] at s5
    exact s5
  · have s5 := x_remove (N := N) (h := h') (a := a) (g := g) (rl := rl) (T := T) (R := upd (upd R 29 (nI (s - 1))) 31 (nI (s - 1))) (X := updH (updH X 29 (shI (X 29) b (s - 1 - b) 1)) 31 (shI (X 31) b (s - 1 - b) 1)) (P := P) (Q := Q) (r := 33) hN rfl (by rw [upS_ne (by omega), upS_ne (by omega)]; exact r33) (show s ≤ 20 from hs) hb
    rw [updH_ne (show 33 ≠ 31 by omega), updH_ne (show 33 ≠ 29 by omega)] at s5
    exact s5
end M70

def bArr (a k : Nat) : Nat → Option Nat := fun i => if i < k then some (a + (2 + 5 * i)) else none
def BInv (b0 len g k : Nat) (c : Nat → Option zE) : Prop := c len = some (.inr (0, [.ref g, .ref (b0 + len + 1), .null, .null, .null, .null, .null, .null, .int (nI 0), .int (nI 0), .int (nI 0), .int (nI 0), .int (nI 0), .int (nI 0), .int (nI 0)])) ∧ c (len + 1) = some (.inl (3, 5, .inr (.inr (.inr (.inr (bArr (b0 + len) k)))))) ∧ ∀ p, p < k → c (len + (2 + 5 * p)) = some (.inr (1, [.ref (b0 + len + (3 + 5 * p)), .ref (b0 + len + (5 + 5 * p)), .int (nI 0), .int (nI 0)])) ∧ c (len + (3 + 5 * p)) = some (.inr (6, [.ref (b0 + len + (4 + 5 * p)), .int (nI 0)])) ∧ c (len + (4 + 5 * p)) = some (.inl (0, 8, .inl (fun _ => nI 0))) ∧ c (len + (5 + 5 * p)) = some (.inr (6, [.ref (b0 + len + (6 + 5 * p)), .int (nI 0)])) ∧ c (len + (6 + 5 * p)) = some (.inl (0, 8, .inl (fun _ => nI 0)))
section M99961
variable {GG : Nat → Option zE} {b0 len m N g : Nat} {c : Nat → Option zE}
theorem C_bids : ∀ (r k fuel m : Nat) (c : Nat → Option zE), k + r = 5 → r < fuel → BInv b0 len g k c → ∃ c', (∀ k1 : zH → Option zH, f_X0_init_l19 N (b0 + len) k1 fuel (nI k) (hC GG b0 c (len + (2 + 5 * k)) m) = k1 (hC GG b0 c' (len + 27) (m + 24 * r))) ∧ BInv b0 len g 5 c' ∧ ∀ j, j < len → c' j = c j := by
  intro r
  induction r with
  | zero =>
    intro k fuel m c hk hf hI
    obtain ⟨fuel, rfl⟩ : ∃ m, fuel = m + 1 := ⟨fuel - 1, by omega⟩
    have : k = 5 := by omega
    subst this
    refine ⟨c, fun k1 => ?_, hI, fun _ _ => rfl⟩
    simp (disch := omega) only [f_X0_init_l19, nlit, nleT, ↓reduceIte]
    rfl
  | succ r ih =>
    intro k fuel m c hk hf hI
    obtain ⟨fuel, rfl⟩ : ∃ m, fuel = m + 1 := ⟨fuel - 1, by omega⟩
    obtain ⟨i1, i2, i3⟩ := hI
    have g1 := hC_gA (GG := GG) (b0 := b0) (m := m) (len := len + (2 + 5 * k)) (j := len) (k := 1) (x := b0 + len + 1) (by omega) i1 rfl
    have n1 := hC_nO (GG := GG) (b0 := b0) (c := c) (len := len + (2 + 5 * k)) (m := m) (k := 1) (fs := [.null, .null, .int (nI 0), .int (nI 0)])
    obtain ⟨c1, q1, q2, q3, q4, q5, q6, q7⟩ := C_bidder (N := N) (GG := GG) (b0 := b0) (len := len + (2 + 5 * k)) (m := m + 4) (c := upC c (len + (2 + 5 * k)) (.inr (1, [.null, .null, .int (nI 0), .int (nI 0)]))) (upC_eq _ _ _)
    have a1 : c1 (len + 1) = some (.inl (3, 5, .inr (.inr (.inr (.inr (bArr (b0 + len) k)))))) := by rw [q2 _ (by omega), upC_ne (by omega)]; exact i2
    have s1 := hC_stQ (GG := GG) (b0 := b0) (c := c1) (len := len + (2 + 5 * k) + 5) (m := m + 4 + 20) (j := len + 1) (i := k) (v := len + (2 + 5 * k)) (by omega) a1 (Or.inl rfl) (by omega) q3 (by omega) (by omega)
    have ea : va_up (bArr (b0 + len) k) k (some (b0 + (len + (2 + 5 * k)))) = bArr (b0 + len) (k + 1) := by
      funext i
      unfold va_up bArr
      by_cases hi : i = k
      · subst hi
        rw [if_pos rfl, if_pos (by omega), Nat.add_assoc]
      · rw [if_neg hi]
        by_cases h2 : i < k
        · rw [if_pos h2, if_pos (by omega)]
        · rw [if_neg h2, if_neg (by omega)]
    rw [ea] at s1
    obtain ⟨c2, j1, j2, j3⟩ := ih (k + 1) fuel (m + 4 + 20) (upC c1 (len + 1) (.inl (3, 5, .inr (.inr (.inr (.inr (bArr (b0 + len) (k + 1)))))))) (by omega) (by omega) (by
      refine ⟨by rw [upC_ne (by omega), q2 _ (by omega), upC_ne (by omega)]; exact i1, upC_eq _ _ _, fun p hp => ?_⟩
      rw [upC_ne (by omega), upC_ne (by omega), upC_ne (by omega), upC_ne (by omega), upC_ne (by omega)]
      by_cases hpk : p = k
      · subst hpk
        refine ⟨q3.trans ?_, ?_, ?_, ?_, ?_⟩
        · rw [show b0 + (len + (2 + 5 * p) + 1) = b0 + len + (3 + 5 * p) by omega, show b0 + (len + (2 + 5 * p) + 3) = b0 + len + (5 + 5 * p) by omega]
        · rw [show len + (3 + 5 * p) = len + (2 + 5 * p) + 1 by omega, q4, show b0 + (len + (2 + 5 * p) + 2) = b0 + len + (4 + 5 * p) by omega]
        · rw [show len + (4 + 5 * p) = len + (2 + 5 * p) + 2 by omega, q5]
        · rw [show len + (5 + 5 * p) = len + (2 + 5 * p) + 3 by omega, q6, show b0 + (len + (2 + 5 * p) + 4) = b0 + len + (6 + 5 * p) by omega]
        · rw [show len + (6 + 5 * p) = len + (2 + 5 * p) + 4 by omega, q7]
      · have hpk2 : p < k := by omega
        rw [q2 _ (by omega), q2 _ (by omega), q2 _ (by omega), q2 _ (by omega), q2 _ (by omega), upC_ne (by omega), upC_ne (by omega), upC_ne (by omega), upC_ne (by omega), upC_ne (by omega)]
        exact i3 p hpk2)
    refine ⟨c2, fun k1 => ?_, j2, fun j hj => by rw [j3 j hj, upC_ne (by omega), q2 _ (by omega), upC_ne (by omega)]⟩
    rw [show m + 24 * (r + 1) = m + 4 + 20 + 24 * r by omega, ← j1 k1]
    have e2 : [Value.null, Value.null, Value.int (nI 0), Value.int (nI 0)].length = 4 := rfl
    simp only [e2] at n1
    have e3 : b0 + len + 1 = b0 + (len + 1) := rfl
    rw [e3] at g1
    simp (disch := omega) only [f_X0_init_l19, nlit, nleF, g1, n1, q1, s1, nadd, ↓reduceIte, Option.bind_some]
    rfl
theorem C_rowf {L k room : Nat} {fs : List Value} (hL : len < L) (hr : room ≤ 100000) (hc : c len = some (.inr (0, fs))) (hk : k < fs.length) : ∃ c', (∀ K : zH → Option zH, ((nwOb 6 [.null, .int (nI 0)] (hC GG b0 c L m)).bind fun y => (f_X6_init N y.1 (nI room) y.2).bind fun y2 => (pF y2 (b0 + len) 0 k (.ref y.1)).bind K) = K (hC GG b0 c' (L + 2) (m + 2 + room))) ∧ (∀ j, j < L → j ≠ len → c' j = c j) ∧ c' len = some (.inr (0, fs.set k (.ref (b0 + L)))) ∧ c' L = some (.inr (6, [.ref (b0 + (L + 1)), .int (nI 0)])) ∧ c' (L + 1) = some (.inl (0, room, .inl (fun _ => nI 0))) := by
  have n1 := hC_nO (GG := GG) (b0 := b0) (c := c) (len := L) (m := m) (k := 6) (fs := [.null, .int (nI 0)])
  obtain ⟨c1, q1, q2, q3, q4⟩ := C_row (N := N) (GG := GG) (b0 := b0) (len := L) (m := m + 2) (c := upC c L (.inr (6, [.null, .int (nI 0)]))) (room := room) hr (upC_eq _ _ _)
  have a1 : c1 len = some (.inr (0, fs)) := by rw [q2 _ hL, upC_ne (by omega)]; exact hc
  have p1 := hC_pF (GG := GG) (b0 := b0) (m := m + 2 + room) (len := L + 2) (j := len) (k := k) (v := .ref (b0 + L)) (by omega) a1 hk
  refine ⟨upC c1 len (.inr (0, fs.set k (.ref (b0 + L)))), fun K => ?_, fun j hj hjl => ?_, upC_eq _ _ _, ?_, ?_⟩
  · have e2 : [Value.null, Value.int (nI 0)].length = 2 := rfl
    rw [e2] at n1
    simp only [n1, q1, p1, Option.bind_some]
  · rw [upC_ne hjl, q2 j hj, upC_ne (by omega)]
  · rw [upC_ne (by omega)]; exact q3
  · rw [upC_ne (by omega)]; exact q4
def T0 : Nat → Int32 := fun k => if k = 8 then nI 2 else nI 0
set_option maxRecDepth 4000 in
theorem C_auction (hNN : 5 < N) (hc : c len = some (.inr (0, [.null, .null, .null, .null, .null, .null, .null, .null, .int (nI 0), .int (nI 0), .int (nI 0), .int (nI 0), .int (nI 0), .int (nI 0), .int (nI 0)]))) : ∃ c', f_X0_init N (b0 + len) g (hC GG b0 c (len + 1) m) = some (hC GG b0 c' (len + 38) (m + 219)) ∧ (∀ j, j < len → c' j = c j) ∧ (∀ j, j < 35 → c' (len + j) = acl (b0 + len) g (b0 + len + 35) T0 (fun _ => nI 0) (fun _ _ => nI 0) (fun _ => nI 0) (fun _ => nI 0) j) ∧ c' (len + 35) = some (.inr (5, [.ref (b0 + len + 35 + 1), .ref (b0 + len + 35 + 2)])) ∧ c' (len + 36) = some (.inl (0, 1, .inl (upd (fun _ => nI 0) 0 (-nI 1)))) ∧ c' (len + 37) = some (.inl (1, 11, .inr (.inl (fun _ => 0)))) := by
  have p0 := hC_pF (GG := GG) (b0 := b0) (m := m) (len := len + 1) (j := len) (k := 0) (v := .ref g) (by omega) hc (by show 0 < 15; omega)
  have n1 := hC_nQ (GG := GG) (b0 := b0) (c := upC c len (.inr (0, [Value.null, .null, .null, .null, .null, .null, .null, .null, .int (nI 0), .int (nI 0), .int (nI 0), .int (nI 0), .int (nI 0), .int (nI 0), .int (nI 0)].set 0 (.ref g)))) (len := len + 1) (m := m) (k := 3) (n := 5) (Or.inl rfl) (by omega)
  have p1 := hC_pF (GG := GG) (b0 := b0) (m := m + 5) (len := len + 1 + 1) (j := len) (k := 1) (v := .ref (b0 + (len + 1))) (by omega) (show upC (upC c len (.inr (0, [Value.null, .null, .null, .null, .null, .null, .null, .null, .int (nI 0), .int (nI 0), .int (nI 0), .int (nI 0), .int (nI 0), .int (nI 0), .int (nI 0)].set 0 (.ref g)))) (len + 1) (.inl (3, 5, .inr (.inr (.inr (.inr (fun _ => none)))))) len = some (.inr (0, [Value.null, .null, .null, .null, .null, .null, .null, .null, .int (nI 0), .int (nI 0), .int (nI 0), .int (nI 0), .int (nI 0), .int (nI 0), .int (nI 0)].set 0 (.ref g))) by rw [upC_ne (by omega), upC_eq]) (by show 1 < 15; omega)
  have hB : BInv b0 len g 0 (upC (upC (upC c len (.inr (0, [Value.null, .null, .null, .null, .null, .null, .null, .null, .int (nI 0), .int (nI 0), .int (nI 0), .int (nI 0), .int (nI 0), .int (nI 0), .int (nI 0)].set 0 (.ref g)))) (len + 1) (.inl (3, 5, .inr (.inr (.inr (.inr (fun _ => none))))))) len (.inr (0, ([Value.null, .null, .null, .null, .null, .null, .null, .null, .int (nI 0), .int (nI 0), .int (nI 0), .int (nI 0), .int (nI 0), .int (nI 0), .int (nI 0)].set 0 (.ref g)).set 1 (.ref (b0 + (len + 1)))))) := by
    refine ⟨upC_eq _ _ _, ?_, fun p hp => absurd hp (Nat.not_lt_zero p)⟩
    rw [upC_ne (by omega), upC_eq]
    have : bArr (b0 + len) 0 = fun _ => none := funext fun i => if_neg (Nat.not_lt_zero i)
    rw [this]
  obtain ⟨c5, b1, b2', b3⟩ := C_bids (N := N) 5 0 N (m + 5) _ (by omega) hNN hB
  obtain ⟨i1, i2, i3⟩ := b2'
  obtain ⟨c6, d1, d2, d3, d4, d5⟩ := C_rowf (N := N) (GG := GG) (b0 := b0) (len := len) (L := len + 27) (m := m + 5 + 24 * 5) (k := 2) (room := 12) (by omega) (by omega) i1 (by show 2 < 15; omega)
  obtain ⟨c7, e1, e2, e3, e4, e5⟩ := C_rowf (N := N) (GG := GG) (b0 := b0) (len := len) (L := len + 27 + 2) (m := m + 5 + 24 * 5 + 2 + 12) (k := 3) (room := 20) (by omega) (by omega) d3 (by show 3 < 15; omega)
  obtain ⟨c8, f1, f2, f3, f4, f5⟩ := C_rowf (N := N) (GG := GG) (b0 := b0) (len := len) (L := len + 27 + 2 + 2) (m := m + 5 + 24 * 5 + 2 + 12 + 2 + 20) (k := 4) (room := 20) (by omega) (by omega) e3 (by show 4 < 15; omega)
  obtain ⟨c9, h1, h2, h3, h4, h5⟩ := C_rowf (N := N) (GG := GG) (b0 := b0) (len := len) (L := len + 27 + 2 + 2 + 2) (m := m + 5 + 24 * 5 + 2 + 12 + 2 + 20 + 2 + 20) (k := 5) (room := 20) (by omega) (by omega) f3 (by show 5 < 15; omega)
  have r1 := hC_nO (GG := GG) (b0 := b0) (c := c9) (len := len + 27 + 2 + 2 + 2 + 2) (m := m + 5 + 24 * 5 + 2 + 12 + 2 + 20 + 2 + 20 + 2 + 20) (k := 5) (fs := [.null, .null])
  have r2 := hC_nI (GG := GG) (b0 := b0) (c := upC c9 (len + 27 + 2 + 2 + 2 + 2) (.inr (5, [.null, .null]))) (len := len + 27 + 2 + 2 + 2 + 2 + 1) (m := m + 5 + 24 * 5 + 2 + 12 + 2 + 20 + 2 + 20 + 2 + 20 + 2) (n := 1) (by omega)
  have r3 := hC_stI (GG := GG) (b0 := b0) (m := m + 5 + 24 * 5 + 2 + 12 + 2 + 20 + 2 + 20 + 2 + 20 + 2 + 1) (len := len + 27 + 2 + 2 + 2 + 2 + 1 + 1) (j := len + 27 + 2 + 2 + 2 + 2 + 1) (k := 0) (x := -nI 1) (by omega) (upC_eq (upC c9 (len + 27 + 2 + 2 + 2 + 2) (.inr (5, [.null, .null]))) (len + 27 + 2 + 2 + 2 + 2 + 1) (.inl (0, 1, .inl (fun _ => nI 0)))) (by omega) (by omega)
  generalize hc1 : upC (upC (upC c9 (len + 27 + 2 + 2 + 2 + 2) (.inr (5, [.null, .null]))) (len + 27 + 2 + 2 + 2 + 2 + 1) (.inl (0, 1, .inl (fun _ => nI 0)))) (len + 27 + 2 + 2 + 2 + 2 + 1) (.inl (0, 1, .inl (upd (fun _ => nI 0) 0 (-nI 1)))) = ca at r3
  have k35 : ca (len + 27 + 2 + 2 + 2 + 2) = some (.inr (5, [.null, .null])) := by rw [← hc1, upC_ne (by omega), upC_ne (by omega), upC_eq]
  have k36 : ca (len + 27 + 2 + 2 + 2 + 2 + 1) = some (.inl (0, 1, .inl (upd (fun _ => nI 0) 0 (-nI 1)))) := by rw [← hc1, upC_eq]
  have klo : ∀ j, j < len + 27 + 2 + 2 + 2 + 2 → ca j = c9 j := fun j hj => by rw [← hc1, upC_ne (by omega), upC_ne (by omega), upC_ne (by omega)]
  have s1 := hC_pF (GG := GG) (b0 := b0) (m := m + 5 + 24 * 5 + 2 + 12 + 2 + 20 + 2 + 20 + 2 + 20 + 2 + 1) (len := len + 27 + 2 + 2 + 2 + 2 + 1 + 1) (j := len + 27 + 2 + 2 + 2 + 2) (k := 0) (v := .ref (b0 + (len + 27 + 2 + 2 + 2 + 2 + 1))) (by omega) k35 (by show 0 < 2; omega)
  generalize hc2 : upC ca (len + 27 + 2 + 2 + 2 + 2) (.inr (5, [Value.null, .null].set 0 (.ref (b0 + (len + 27 + 2 + 2 + 2 + 2 + 1))))) = cb at s1
  have s2 := hC_nJ (GG := GG) (b0 := b0) (c := cb) (len := len + 27 + 2 + 2 + 2 + 2 + 1 + 1) (m := m + 5 + 24 * 5 + 2 + 12 + 2 + 20 + 2 + 20 + 2 + 20 + 2 + 1) (n := 11) (by omega)
  generalize hc3 : upC cb (len + 27 + 2 + 2 + 2 + 2 + 1 + 1) (.inl (1, 11, .inr (.inl (fun _ => 0)))) = cc at s2
  have s3 := hC_pF (GG := GG) (b0 := b0) (m := m + 5 + 24 * 5 + 2 + 12 + 2 + 20 + 2 + 20 + 2 + 20 + 2 + 1 + 11) (len := len + 27 + 2 + 2 + 2 + 2 + 1 + 1 + 1) (j := len + 27 + 2 + 2 + 2 + 2) (k := 1) (v := .ref (b0 + (len + 27 + 2 + 2 + 2 + 2 + 1 + 1))) (by omega) (show cc (len + 27 + 2 + 2 + 2 + 2) = some (.inr (5, [Value.null, .null].set 0 (.ref (b0 + (len + 27 + 2 + 2 + 2 + 2 + 1))))) by rw [← hc3, upC_ne (by omega), ← hc2, upC_eq]) (by show 1 < 2; omega)
  generalize hc4 : upC cc (len + 27 + 2 + 2 + 2 + 2) (.inr (5, ([Value.null, .null].set 0 (.ref (b0 + (len + 27 + 2 + 2 + 2 + 2 + 1)))).set 1 (.ref (b0 + (len + 27 + 2 + 2 + 2 + 2 + 1 + 1))))) = cd at s3
  have cdlo : ∀ j, j < len + 27 + 2 + 2 + 2 + 2 → cd j = c9 j := fun j hj => by rw [← hc4, upC_ne (by omega), ← hc3, upC_ne (by omega), ← hc2, upC_ne (by omega)]; exact klo j hj
  have cd35 : cd (len + 27 + 2 + 2 + 2 + 2) = some (.inr (5, ([Value.null, .null].set 0 (.ref (b0 + (len + 27 + 2 + 2 + 2 + 2 + 1)))).set 1 (.ref (b0 + (len + 27 + 2 + 2 + 2 + 2 + 1 + 1))))) := by rw [← hc4, upC_eq]
  have cd36 : cd (len + 27 + 2 + 2 + 2 + 2 + 1) = some (.inl (0, 1, .inl (upd (fun _ => nI 0) 0 (-nI 1)))) := by rw [← hc4, upC_ne (by omega), ← hc3, upC_ne (by omega), ← hc2, upC_ne (by omega)]; exact k36
  have cd37 : cd (len + 27 + 2 + 2 + 2 + 2 + 1 + 1) = some (.inl (1, 11, .inr (.inl (fun _ => 0)))) := by rw [← hc4, upC_ne (by omega), ← hc3, upC_eq]
  have t1 := hC_pF (GG := GG) (b0 := b0) (m := m + 5 + 24 * 5 + 2 + 12 + 2 + 20 + 2 + 20 + 2 + 20 + 2 + 1 + 11) (len := len + 27 + 2 + 2 + 2 + 2 + 1 + 1 + 1) (j := len) (k := 6) (v := .ref (b0 + (len + 27 + 2 + 2 + 2 + 2))) (by omega) ((cdlo len (by omega)).trans h3) (by show 6 < 15; omega)
  generalize hfs : ((((([Value.ref g, .ref (b0 + len + 1), .null, .null, .null, .null, .null, .null, .int (nI 0), .int (nI 0), .int (nI 0), .int (nI 0), .int (nI 0), .int (nI 0), .int (nI 0)].set 2 (.ref (b0 + (len + 27)))).set 3 (.ref (b0 + (len + 27 + 2)))).set 4 (.ref (b0 + (len + 27 + 2 + 2)))).set 5 (.ref (b0 + (len + 27 + 2 + 2 + 2)))).set 6 (.ref (b0 + (len + 27 + 2 + 2 + 2 + 2)))) = fs6 at t1
  have lfs : fs6.length = 15 := by rw [← hfs]; rfl
  have g6 : fs6[6]? = some (.ref (b0 + (len + 27 + 2 + 2 + 2 + 2))) := by rw [← hfs]; rfl
  have t2 := hC_gA (GG := GG) (b0 := b0) (m := m + 5 + 24 * 5 + 2 + 12 + 2 + 20 + 2 + 20 + 2 + 20 + 2 + 1 + 11) (len := len + 27 + 2 + 2 + 2 + 2 + 1 + 1 + 1) (j := len) (k := 6) (cl := 0) (c := upC cd len (.inr (0, fs6))) (fs := fs6) (by omega) (upC_eq _ _ _) g6
  have t3 := hC_pF (GG := GG) (b0 := b0) (m := m + 5 + 24 * 5 + 2 + 12 + 2 + 20 + 2 + 20 + 2 + 20 + 2 + 1 + 11) (len := len + 27 + 2 + 2 + 2 + 2 + 1 + 1 + 1) (j := len) (k := 7) (cl := 0) (c := upC cd len (.inr (0, fs6))) (fs := fs6) (v := .ref (b0 + (len + 27 + 2 + 2 + 2 + 2))) (by omega) (upC_eq _ _ _) (by omega)
  have t4 := hC_pF (GG := GG) (b0 := b0) (m := m + 5 + 24 * 5 + 2 + 12 + 2 + 20 + 2 + 20 + 2 + 20 + 2 + 1 + 11) (len := len + 27 + 2 + 2 + 2 + 2 + 1 + 1 + 1) (j := len) (k := 8) (cl := 0) (v := .int (nI 2)) (by omega) (upC_eq (upC cd len (.inr (0, fs6))) len (.inr (0, fs6.set 7 (.ref (b0 + (len + 27 + 2 + 2 + 2 + 2)))))) (by rw [List.length_set]; omega)
  have l2 : [Value.null, Value.null].length = 2 := rfl
  rw [l2] at r1
  refine ⟨?cz9, ?eqz9, ?restz9⟩
  case eqz9 =>
    simp only [f_X0_init, nlit, p0, n1, p1, Option.bind_some]
    refine (b1 _).trans ?_
    refine (d1 _).trans ?_
    refine (e1 _).trans ?_
    refine (f1 _).trans ?_
    refine (h1 _).trans ?_
    simp only [r1, r2, r3, f_X5_init, nlit, s1, s2, s3, t1, t2, t3, t4, Option.bind_some]
    rfl
  have lo9 : ∀ j, 0 < j → j < 35 → upC (upC (upC cd len (.inr (0, fs6))) len (.inr (0, fs6.set 7 (.ref (b0 + (len + 27 + 2 + 2 + 2 + 2)))))) len (.inr (0, (fs6.set 7 (.ref (b0 + (len + 27 + 2 + 2 + 2 + 2)))).set 8 (.int (nI 2)))) (len + j) = c9 (len + j) := fun j h0 hj => by
    rw [upC_ne (by omega), upC_ne (by omega), upC_ne (by omega)]
    exact cdlo _ (by omega)
  have lo5 : ∀ j, 0 < j → j < 27 → upC (upC (upC cd len (.inr (0, fs6))) len (.inr (0, fs6.set 7 (.ref (b0 + (len + 27 + 2 + 2 + 2 + 2)))))) len (.inr (0, (fs6.set 7 (.ref (b0 + (len + 27 + 2 + 2 + 2 + 2)))).set 8 (.int (nI 2)))) (len + j) = c5 (len + j) := fun j h0 hj => (lo9 j h0 (by omega)).trans ((h2 _ (by omega) (by omega)).trans ((f2 _ (by omega) (by omega)).trans ((e2 _ (by omega) (by omega)).trans (d2 _ (by omega) (by omega)))))
  refine ⟨fun j hj => ?_, fun j hj => ?_, ?_, ?_, ?_⟩
  · rw [upC_ne (by omega), upC_ne (by omega), upC_ne (by omega), cdlo _ (by omega), h2 _ (by omega) (by omega), f2 _ (by omega) (by omega), e2 _ (by omega) (by omega), d2 _ (by omega) (by omega), b3 j hj, upC_ne (by omega), upC_ne (by omega), upC_ne (by omega)]
  · rcases (show j = 0 ∨ j = 1 ∨ j = 2 ∨ j = 3 ∨ j = 4 ∨ j = 5 ∨ j = 6 ∨ j = 7 ∨ j = 8 ∨ j = 9 ∨ j = 10 ∨ j = 11 ∨ j = 12 ∨ j = 13 ∨ j = 14 ∨ j = 15 ∨ j = 16 ∨ j = 17 ∨ j = 18 ∨ j = 19 ∨ j = 20 ∨ j = 21 ∨ j = 22 ∨ j = 23 ∨ j = 24 ∨ j = 25 ∨ j = 26 ∨ j = 27 ∨ j = 28 ∨ j = 29 ∨ j = 30 ∨ j = 31 ∨ j = 32 ∨ j = 33 ∨ j = 34 by omega) with rfl | rfl | rfl | rfl | rfl | rfl | rfl | rfl | rfl | rfl | rfl | rfl | rfl | rfl | rfl | rfl | rfl | rfl | rfl | rfl | rfl | rfl | rfl | rfl | rfl | rfl | rfl | rfl | rfl | rfl | rfl | rfl | rfl | rfl | rfl
    · refine Eq.trans (upC_eq _ _ _) ?_
      rw [← hfs]
      rfl
    · exact (lo5 1 (by omega) (by omega)).trans i2
    · exact (lo5 2 (by omega) (by omega)).trans (i3 0 (by omega)).1
    · exact (lo5 3 (by omega) (by omega)).trans (i3 0 (by omega)).2.1
    · exact (lo5 4 (by omega) (by omega)).trans (i3 0 (by omega)).2.2.1
    · exact (lo5 5 (by omega) (by omega)).trans (i3 0 (by omega)).2.2.2.1
    · exact (lo5 6 (by omega) (by omega)).trans (i3 0 (by omega)).2.2.2.2
    · exact (lo5 7 (by omega) (by omega)).trans (i3 1 (by omega)).1
    · exact (lo5 8 (by omega) (by omega)).trans (i3 1 (by omega)).2.1
    · exact (lo5 9 (by omega) (by omega)).trans (i3 1 (by omega)).2.2.1
    · exact (lo5 10 (by omega) (by omega)).trans (i3 1 (by omega)).2.2.2.1
    · exact (lo5 11 (by omega) (by omega)).trans (i3 1 (by omega)).2.2.2.2
    · exact (lo5 12 (by omega) (by omega)).trans (i3 2 (by omega)).1
    · exact (lo5 13 (by omega) (by omega)).trans (i3 2 (by omega)).2.1
    · exact (lo5 14 (by omega) (by omega)).trans (i3 2 (by omega)).2.2.1
    · exact (lo5 15 (by omega) (by omega)).trans (i3 2 (by omega)).2.2.2.1
    · exact (lo5 16 (by omega) (by omega)).trans (i3 2 (by omega)).2.2.2.2
    · exact (lo5 17 (by omega) (by omega)).trans (i3 3 (by omega)).1
    · exact (lo5 18 (by omega) (by omega)).trans (i3 3 (by omega)).2.1
    · exact (lo5 19 (by omega) (by omega)).trans (i3 3 (by omega)).2.2.1
    · exact (lo5 20 (by omega) (by omega)).trans (i3 3 (by omega)).2.2.2.1
    · exact (lo5 21 (by omega) (by omega)).trans (i3 3 (by omega)).2.2.2.2
    · exact (lo5 22 (by omega) (by omega)).trans (i3 4 (by omega)).1
    · exact (lo5 23 (by omega) (by omega)).trans (i3 4 (by omega)).2.1
    · exact (lo5 24 (by omega) (by omega)).trans (i3 4 (by omega)).2.2.1
    · exact (lo5 25 (by omega) (by omega)).trans (i3 4 (by omega)).2.2.2.1
    · exact (lo5 26 (by omega) (by omega)).trans (i3 4 (by omega)).2.2.2.2
    · exact (lo9 27 (by omega) (by omega)).trans ((h2 _ (by omega) (by omega)).trans ((f2 _ (by omega) (by omega)).trans ((e2 _ (by omega) (by omega)).trans d4)))
    · exact (lo9 28 (by omega) (by omega)).trans ((h2 _ (by omega) (by omega)).trans ((f2 _ (by omega) (by omega)).trans ((e2 _ (by omega) (by omega)).trans d5)))
    · exact (lo9 29 (by omega) (by omega)).trans ((h2 _ (by omega) (by omega)).trans ((f2 _ (by omega) (by omega)).trans e4))
    · exact (lo9 30 (by omega) (by omega)).trans ((h2 _ (by omega) (by omega)).trans ((f2 _ (by omega) (by omega)).trans e5))
    · exact (lo9 31 (by omega) (by omega)).trans ((h2 _ (by omega) (by omega)).trans f4)
    · exact (lo9 32 (by omega) (by omega)).trans ((h2 _ (by omega) (by omega)).trans f5)
    · exact (lo9 33 (by omega) (by omega)).trans (h4)
    · exact (lo9 34 (by omega) (by omega)).trans (h5)
  · rw [upC_ne (by omega), upC_ne (by omega), upC_ne (by omega)]
    exact cd35
  · rw [upC_ne (by omega), upC_ne (by omega), upC_ne (by omega)]
    exact cd36
  · rw [upC_ne (by omega), upC_ne (by omega), upC_ne (by omega)]
    exact cd37
end M99961

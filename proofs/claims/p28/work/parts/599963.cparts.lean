def ACF (b0 g len : Nat) (c : Nat → Option zE) : Prop := (∀ j, j < 35 → c (len + j) = acl (b0 + len) g (b0 + len + 35) T0 (fun _ => nI 0) (fun _ _ => nI 0) (fun _ => nI 0) (fun _ => nI 0) j) ∧ c (len + 35) = some (.inr (5, [.ref (b0 + len + 35 + 1), .ref (b0 + len + 35 + 2)])) ∧ c (len + 36) = some (.inl (0, 1, .inl (upd (fun _ => nI 0) 0 (-nI 1)))) ∧ c (len + 37) = some (.inl (1, 11, .inr (.inl (fun _ => 0))))
theorem ACF_eq {b0 g len : Nat} {c c' : Nat → Option zE} (h : ACF b0 g len c) (he : ∀ j, len ≤ j → j < len + 38 → c' j = c j) : ACF b0 g len c' := by
  obtain ⟨h1, h2, h3, h4⟩ := h
  exact ⟨fun j hj => (he _ (by omega) (by omega)).trans (h1 j hj), (he _ (by omega) (by omega)).trans h2, (he _ (by omega) (by omega)).trans h3, (he _ (by omega) (by omega)).trans h4⟩
section M99963
variable {GG : Nat → Option zE} {b0 len m N g : Nat} {c : Nat → Option zE}
theorem C_auc (hNN : 5 < N) : ∃ c', (nwOb 0 [.null, .null, .null, .null, .null, .null, .null, .null, .int (nI 0), .int (nI 0), .int (nI 0), .int (nI 0), .int (nI 0), .int (nI 0), .int (nI 0)] (hC GG b0 c len m) = some (b0 + len, hC GG b0 (upC c len (.inr (0, [.null, .null, .null, .null, .null, .null, .null, .null, .int (nI 0), .int (nI 0), .int (nI 0), .int (nI 0), .int (nI 0), .int (nI 0), .int (nI 0)]))) (len + 1) (m + 15)) ∧ f_X0_init N (b0 + len) g (hC GG b0 (upC c len (.inr (0, [.null, .null, .null, .null, .null, .null, .null, .null, .int (nI 0), .int (nI 0), .int (nI 0), .int (nI 0), .int (nI 0), .int (nI 0), .int (nI 0)]))) (len + 1) (m + 15)) = some (hC GG b0 c' (len + 38) (m + 234))) ∧ (∀ j, j < len → c' j = c j) ∧ ACF b0 g len c' := by
  have n1 := hC_nO (GG := GG) (b0 := b0) (c := c) (len := len) (m := m) (k := 0) (fs := [.null, .null, .null, .null, .null, .null, .null, .null, .int (nI 0), .int (nI 0), .int (nI 0), .int (nI 0), .int (nI 0), .int (nI 0), .int (nI 0)])
  obtain ⟨c', q1, q2, q3⟩ := C_auction (N := N) (GG := GG) (b0 := b0) (len := len) (m := m + 15) (g := g) (c := upC c len (.inr (0, [.null, .null, .null, .null, .null, .null, .null, .null, .int (nI 0), .int (nI 0), .int (nI 0), .int (nI 0), .int (nI 0), .int (nI 0), .int (nI 0)]))) hNN (upC_eq _ _ _)
  have e15 : [Value.null, .null, .null, .null, .null, .null, .null, .null, .int (nI 0), .int (nI 0), .int (nI 0), .int (nI 0), .int (nI 0), .int (nI 0), .int (nI 0)].length = 15 := rfl
  rw [e15] at n1
  exact ⟨c', ⟨n1, q1⟩, fun j hj => by rw [q2 j hj, upC_ne (by omega)], q3⟩
theorem C_rowO {room : Nat} (hr : room ≤ 100000) : ∃ c', (nwOb 6 [.null, .int (nI 0)] (hC GG b0 c len m) = some (b0 + len, hC GG b0 (upC c len (.inr (6, [.null, .int (nI 0)]))) (len + 1) (m + 2)) ∧ f_X6_init N (b0 + len) (nI room) (hC GG b0 (upC c len (.inr (6, [.null, .int (nI 0)]))) (len + 1) (m + 2)) = some (hC GG b0 c' (len + 2) (m + 2 + room))) ∧ (∀ j, j < len → c' j = c j) ∧ c' len = some (.inr (6, [.ref (b0 + (len + 1)), .int (nI 0)])) ∧ c' (len + 1) = some (.inl (0, room, .inl (fun _ => nI 0))) := by
  have n1 := hC_nO (GG := GG) (b0 := b0) (c := c) (len := len) (m := m) (k := 6) (fs := [.null, .int (nI 0)])
  obtain ⟨c1, q1, q2, q3, q4⟩ := C_row (N := N) (GG := GG) (b0 := b0) (len := len) (m := m + 2) (c := upC c len (.inr (6, [.null, .int (nI 0)]))) (room := room) hr (upC_eq _ _ _)
  have e2 : [Value.null, Value.int (nI 0)].length = 2 := rfl
  rw [e2] at n1
  exact ⟨c1, ⟨n1, q1⟩, fun j hj => by rw [q2 j hj, upC_ne (by omega)], q3, q4⟩
theorem C_reader (hNN : 5 < N) (hc : c len = some (.inr (7, [.null, .null, .int (nI 0), .int (nI 0), .int (nI 0), .int (nI 0), .int (nI 0), .int (nI 0), .int (nI 0), .null, .null, .int (nI 0), .int (nI 0), .int (nI 0)]))) : ∃ c', f_X7_init N (b0 + len) g (hC GG b0 c (len + 1) m) = some (hC GG b0 c' (len + 42) (m + 1636)) ∧ (∀ j, j < len → c' j = c j) ∧ c' len = some (.inr (7, [.ref g, .ref (b0 + (len + 1)), .int (nI 0), .int (nI 0), .int (nI 0), .int (nI 0), .int (nI 0), .int (nI 0), .int (nI 0), .ref (b0 + (len + 4)), .ref (b0 + (len + 2)), .int (nI 0), .int (nI 0), .int (nI 0)])) ∧ c' (len + 1) = some (.inl (0, 700, .inl (fun _ => nI 0))) ∧ c' (len + 2) = some (.inr (6, [.ref (b0 + (len + 3)), .int (nI 0)])) ∧ c' (len + 3) = some (.inl (0, 700, .inl (fun _ => nI 0))) ∧ ACF b0 g (len + 4) c' := by
  have p0 := hC_pF (GG := GG) (b0 := b0) (m := m) (len := len + 1) (j := len) (k := 0) (v := .ref g) (by omega) hc (by show 0 < 14; omega)
  generalize hc0 : upC c len (.inr (7, [Value.null, .null, .int (nI 0), .int (nI 0), .int (nI 0), .int (nI 0), .int (nI 0), .int (nI 0), .int (nI 0), .null, .null, .int (nI 0), .int (nI 0), .int (nI 0)].set 0 (.ref g))) = ca at p0
  have n1 := hC_nI (GG := GG) (b0 := b0) (c := ca) (len := len + 1) (m := m) (n := 700) (by omega)
  have p1 := hC_pF (GG := GG) (b0 := b0) (m := m + 700) (len := len + 1 + 1) (j := len) (k := 1) (v := .ref (b0 + (len + 1))) (by omega) (show upC ca (len + 1) (.inl (0, 700, .inl (fun _ => nI 0))) len = _ by rw [upC_ne (by omega), ← hc0, upC_eq]) (by show 1 < 14; omega)
  generalize hc1 : upC (upC ca (len + 1) (.inl (0, 700, .inl (fun _ => nI 0)))) len (.inr (7, ([Value.null, .null, .int (nI 0), .int (nI 0), .int (nI 0), .int (nI 0), .int (nI 0), .int (nI 0), .int (nI 0), .null, .null, .int (nI 0), .int (nI 0), .int (nI 0)].set 0 (.ref g)).set 1 (.ref (b0 + (len + 1))))) = cb at p1
  obtain ⟨c2, q1, q2, q3, q4⟩ := C_rowO (N := N) (GG := GG) (b0 := b0) (len := len + 1 + 1) (m := m + 700) (c := cb) (room := 700) (by omega)
  have p2 := hC_pF (GG := GG) (b0 := b0) (m := m + 700 + 2 + 700) (len := len + 1 + 1 + 2) (j := len) (k := 10) (v := .ref (b0 + (len + 1 + 1))) (by omega) (show c2 len = _ by rw [q2 _ (by omega), ← hc1, upC_eq]) (by show 10 < 14; omega)
  generalize hc2 : upC c2 len (.inr (7, (([Value.null, .null, .int (nI 0), .int (nI 0), .int (nI 0), .int (nI 0), .int (nI 0), .int (nI 0), .int (nI 0), .null, .null, .int (nI 0), .int (nI 0), .int (nI 0)].set 0 (.ref g)).set 1 (.ref (b0 + (len + 1)))).set 10 (.ref (b0 + (len + 1 + 1))))) = cd at p2
  obtain ⟨c3, r1, r2, r3⟩ := C_auc (N := N) (GG := GG) (b0 := b0) (len := len + 1 + 1 + 2) (m := m + 700 + 2 + 700) (c := cd) (g := g) hNN
  have p3 := hC_pF (GG := GG) (b0 := b0) (m := m + 700 + 2 + 700 + 234) (len := len + 1 + 1 + 2 + 38) (j := len) (k := 9) (v := .ref (b0 + (len + 1 + 1 + 2))) (by omega) (show c3 len = _ by rw [r2 _ (by omega), ← hc2, upC_eq]) (by show 9 < 14; omega)
  refine ⟨?cz9, ?eqz9, ?restz9⟩
  case eqz9 =>
    simp only [f_X7_init, nlit, p0, n1, p1, q1.1, q1.2, p2, r1.1, r1.2, p3, Option.bind_some]
    rfl
  refine ⟨fun j hj => ?_, upC_eq _ _ _, ?_, ?_, ?_, ACF_eq r3 (fun j h1 h2 => upC_ne (by omega))⟩
  · rw [upC_ne (by omega), r2 j (by omega), ← hc2, upC_ne (by omega), q2 j (by omega), ← hc1, upC_ne (by omega), upC_ne (by omega), ← hc0, upC_ne (by omega)]
  · rw [upC_ne (by omega), r2 _ (by omega), ← hc2, upC_ne (by omega), q2 _ (by omega), ← hc1, upC_ne (by omega), upC_eq]
  · rw [upC_ne (by omega), r2 _ (by omega), ← hc2, upC_ne (by omega)]
    exact q3
  · rw [upC_ne (by omega), r2 _ (by omega), ← hc2, upC_ne (by omega)]
    exact q4
def rArr (a k : Nat) : Nat → Option Nat := fun i => if i < k then some (a + 38 * i) else none
theorem C_hist_l (hNN : 10 < N) : ∀ (r k fuel m : Nat) (c : Nat → Option zE), k + r = 8 → r < fuel → c len = some (.inr (4, [.ref (b0 + (len + 1)), .int (nI 0), .int (nI 0)])) → c (len + 1) = some (refE (rArr (b0 + (len + 2)) k) 8) → (∀ i, i < k → ACF b0 g (len + 2 + 38 * i) c) → ∃ c', f_X4_init_l15 N (b0 + len) g fuel (nI k) (hC GG b0 c (len + 2 + 38 * k) m) = some (hC GG b0 c' (len + 306) (m + 234 * r)) ∧ (∀ j, j < len + 1 → c' j = c j) ∧ c' (len + 1) = some (refE (rArr (b0 + (len + 2)) 8) 8) ∧ ∀ i, i < 8 → ACF b0 g (len + 2 + 38 * i) c' := by
  intro r
  induction r with
  | zero =>
    intro k fuel m c hk hf h0 h1 h2
    obtain ⟨fuel, rfl⟩ : ∃ m, fuel = m + 1 := ⟨fuel - 1, by omega⟩
    have : k = 8 := by omega
    subst this
    refine ⟨c, ?_, fun _ _ => rfl, h1, h2⟩
    simp (disch := omega) only [f_X4_init_l15, nlit, nleT, ↓reduceIte]
    rfl
  | succ r ih =>
    intro k fuel m c hk hf h0 h1 h2
    obtain ⟨fuel, rfl⟩ : ∃ m, fuel = m + 1 := ⟨fuel - 1, by omega⟩
    have g1 := hC_gA (GG := GG) (b0 := b0) (m := m) (len := len + 2 + 38 * k) (j := len) (k := 0) (x := b0 + (len + 1)) (by omega) h0 rfl
    obtain ⟨c3, r1, r2, r3⟩ := C_auc (N := N) (GG := GG) (b0 := b0) (len := len + 2 + 38 * k) (m := m) (c := c) (g := g) (by omega)
    have k1 : c3 (len + 1) = some (refE (rArr (b0 + (len + 2)) k) 8) := by rw [r2 _ (by omega)]; exact h1
    have k2 : c3 (len + 2 + 38 * k) = some (.inr (0, [.ref g, .ref (b0 + (len + 2 + 38 * k) + 1), .ref (b0 + (len + 2 + 38 * k) + 27), .ref (b0 + (len + 2 + 38 * k) + 29), .ref (b0 + (len + 2 + 38 * k) + 31), .ref (b0 + (len + 2 + 38 * k) + 33), .ref (b0 + (len + 2 + 38 * k) + 35), .ref (b0 + (len + 2 + 38 * k) + 35), .int (T0 8), .int (T0 9), .int (T0 10), .int (T0 11), .int (T0 12), .int (T0 13), .int (T0 14)])) := r3.1 0 (by omega)
    have s1 := hC_stQ (GG := GG) (b0 := b0) (c := c3) (len := len + 2 + 38 * k + 38) (m := m + 234) (j := len + 1) (i := k) (v := len + 2 + 38 * k) (k := 4) (by omega) k1 (Or.inr rfl) (by omega) k2 (by omega) (by omega)
    have ea : va_up (rArr (b0 + (len + 2)) k) k (some (b0 + (len + 2 + 38 * k))) = rArr (b0 + (len + 2)) (k + 1) := by
      funext i
      unfold va_up rArr
      by_cases hi : i = k
      · subst hi
        rw [if_pos rfl, if_pos (by omega), ← Nat.add_assoc]
      · rw [if_neg hi]
        by_cases h2 : i < k
        · rw [if_pos h2, if_pos (by omega)]
        · rw [if_neg h2, if_neg (by omega)]
    rw [ea] at s1
    obtain ⟨c', i1, i2, i3⟩ := ih (k + 1) fuel (m + 234) (upC c3 (len + 1) (refE (rArr (b0 + (len + 2)) (k + 1)) 8)) (by omega) (by omega) (by rw [upC_ne (by omega), r2 _ (by omega)]; exact h0) (upC_eq _ _ _) (fun i hi => by
      by_cases hik : i = k
      · subst hik
        exact ACF_eq r3 (fun j h1 h2 => upC_ne (by omega))
      · exact ACF_eq (h2 i (by omega)) (fun j h1 h2 => by rw [upC_ne (by omega), r2 j (by omega)]))
    refine ⟨c', ?_, fun j hj => by rw [i2 j hj, upC_ne (by omega), r2 j (by omega)], i3⟩
    rw [show m + 234 * (r + 1) = m + 234 + 234 * r by omega, ← i1]
    rw [f_X4_init_l15]
    simp (disch := omega) only [nlit, nleF, g1, r1.1, r1.2, s1, nadd, ↓reduceIte, Option.bind_some]
    rfl
theorem C_hist (hNN : 10 < N) (hc : c len = some (.inr (4, [.null, .int (nI 0), .int (nI 0)]))) : ∃ c', f_X4_init N (b0 + len) g (hC GG b0 c (len + 1) m) = some (hC GG b0 c' (len + 306) (m + 1880)) ∧ (∀ j, j < len → c' j = c j) ∧ c' len = some (.inr (4, [.ref (b0 + (len + 1)), .int (nI 0), .int (nI 0)])) ∧ c' (len + 1) = some (refE (rArr (b0 + (len + 2)) 8) 8) ∧ ∀ i, i < 8 → ACF b0 g (len + 2 + 38 * i) c' := by
  have n1 := hC_nQ (GG := GG) (b0 := b0) (c := c) (len := len + 1) (m := m) (k := 4) (n := 8) (Or.inr rfl) (by omega)
  have p1 := hC_pF (GG := GG) (b0 := b0) (m := m + 8) (len := len + 1 + 1) (j := len) (k := 0) (v := .ref (b0 + (len + 1))) (by omega) (show upC c (len + 1) (.inl (4, 8, .inr (.inr (.inr (.inr (fun _ => none)))))) len = _ by rw [upC_ne (by omega)]; exact hc) (by show 0 < 3; omega)
  obtain ⟨c', i1, i2, i3, i4⟩ := C_hist_l (N := N) (GG := GG) (b0 := b0) (len := len) (g := g) hNN 8 0 N (m + 8) (upC (upC c (len + 1) (.inl (4, 8, .inr (.inr (.inr (.inr (fun _ => none))))))) len (.inr (4, [Value.null, .int (nI 0), .int (nI 0)].set 0 (.ref (b0 + (len + 1)))))) (by omega) (by omega) (upC_eq _ _ _) (by
    rw [upC_ne (by omega), upC_eq]
    have : rArr (b0 + (len + 2)) 0 = fun _ => none := funext fun i => if_neg (Nat.not_lt_zero i)
    rw [this]
    rfl) (fun i hi => absurd hi (Nat.not_lt_zero i))
  refine ⟨c', ?_, fun j hj => by rw [i2 j (by omega), upC_ne (by omega), upC_ne (by omega)], (i2 len (by omega)).trans (upC_eq _ _ _), i3, i4⟩
  rw [show m + 1880 = m + 8 + 234 * 8 by omega, ← i1]
  simp only [f_X4_init, nlit, n1, p1, Option.bind_some]
theorem C_hands (hc : c len = some (.inr (3, [.null, .null, .null, .null, .int (nI 0), .int (nI 0)]))) : ∃ c', f_X3_init N (b0 + len) g (hC GG b0 c (len + 1) m) = some (hC GG b0 c' (len + 5) (m + 1596)) ∧ (∀ j, j < len → c' j = c j) ∧ c' len = some (.inr (3, [.ref g, .ref (b0 + (len + 1)), .ref (b0 + (len + 2)), .ref (b0 + (len + 3)), .int (nI 0), .int (nI 0)])) ∧ c' (len + 1) = some (.inl (0, 960, .inl (fun _ => nI 0))) ∧ c' (len + 2) = some (.inl (1, 514, .inr (.inl (fun _ => 0)))) ∧ c' (len + 3) = some (.inr (6, [.ref (b0 + (len + 4)), .int (nI 0)])) ∧ c' (len + 4) = some (.inl (0, 120, .inl (fun _ => nI 0))) := by
  have p0 := hC_pF (GG := GG) (b0 := b0) (m := m) (len := len + 1) (j := len) (k := 0) (v := .ref g) (by omega) hc (by show 0 < 6; omega)
  generalize hc0 : upC c len (.inr (3, [Value.null, .null, .null, .null, .int (nI 0), .int (nI 0)].set 0 (.ref g))) = ca at p0
  have n1 := hC_nI (GG := GG) (b0 := b0) (c := ca) (len := len + 1) (m := m) (n := 960) (by omega)
  have p1 := hC_pF (GG := GG) (b0 := b0) (m := m + 960) (len := len + 1 + 1) (j := len) (k := 1) (v := .ref (b0 + (len + 1))) (by omega) (show upC ca (len + 1) (.inl (0, 960, .inl (fun _ => nI 0))) len = _ by rw [upC_ne (by omega), ← hc0, upC_eq]) (by show 1 < 6; omega)
  generalize hc1 : upC (upC ca (len + 1) (.inl (0, 960, .inl (fun _ => nI 0)))) len (.inr (3, ([Value.null, .null, .null, .null, .int (nI 0), .int (nI 0)].set 0 (.ref g)).set 1 (.ref (b0 + (len + 1))))) = cb at p1
  have n2 := hC_nJ (GG := GG) (b0 := b0) (c := cb) (len := len + 1 + 1) (m := m + 960) (n := 514) (by omega)
  have p2 := hC_pF (GG := GG) (b0 := b0) (m := m + 960 + 514) (len := len + 1 + 1 + 1) (j := len) (k := 2) (v := .ref (b0 + (len + 1 + 1))) (by omega) (show upC cb (len + 1 + 1) (.inl (1, 514, .inr (.inl (fun _ => 0)))) len = _ by rw [upC_ne (by omega), ← hc1, upC_eq]) (by show 2 < 6; omega)
  generalize hc2 : upC (upC cb (len + 1 + 1) (.inl (1, 514, .inr (.inl (fun _ => 0))))) len (.inr (3, (([Value.null, .null, .null, .null, .int (nI 0), .int (nI 0)].set 0 (.ref g)).set 1 (.ref (b0 + (len + 1)))).set 2 (.ref (b0 + (len + 1 + 1))))) = cd at p2
  obtain ⟨c2, q1, q2, q3, q4⟩ := C_rowO (N := N) (GG := GG) (b0 := b0) (len := len + 1 + 1 + 1) (m := m + 960 + 514) (c := cd) (room := 120) (by omega)
  have p3 := hC_pF (GG := GG) (b0 := b0) (m := m + 960 + 514 + 2 + 120) (len := len + 1 + 1 + 1 + 2) (j := len) (k := 3) (v := .ref (b0 + (len + 1 + 1 + 1))) (by omega) (show c2 len = _ by rw [q2 _ (by omega), ← hc2, upC_eq]) (by show 3 < 6; omega)
  refine ⟨?cz9, ?eqz9, ?restz9⟩
  case eqz9 =>
    simp only [f_X3_init, nlit, p0, n1, p1, n2, p2, q1.1, q1.2, p3, Option.bind_some]
    rfl
  refine ⟨fun j hj => ?_, upC_eq _ _ _, ?_, ?_, ?_, ?_⟩
  · rw [upC_ne (by omega), q2 j (by omega), ← hc2, upC_ne (by omega), upC_ne (by omega), ← hc1, upC_ne (by omega), upC_ne (by omega), ← hc0, upC_ne (by omega)]
  · rw [upC_ne (by omega), q2 _ (by omega), ← hc2, upC_ne (by omega), upC_ne (by omega), ← hc1, upC_ne (by omega), upC_eq]
  · rw [upC_ne (by omega), q2 _ (by omega), ← hc2, upC_ne (by omega), upC_eq]
  · rw [upC_ne (by omega)]; exact q3
  · rw [upC_ne (by omega)]; exact q4
end M99963

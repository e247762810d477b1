def exB (k : Nat) : Int32 := (((nI 1 <<< (nI (4 - k / 125) &&& nI 31)) ||| (nI 1 <<< (nI (4 - k / 25 % 5) &&& nI 31))) ||| (nI 1 <<< (nI (4 - k / 5 % 5) &&& nI 31))) ||| (nI 1 <<< (nI (4 - k % 5) &&& nI 31))
def gTat (i : Nat) : Nat := (gT >>> (3 * i)) % 8
def chkG : Nat → Nat → Nat → Bool
  | 0, _, made => Nat.beq made 120
  | r + 1, k, made => if Nat.beq made 120 then (List.range (r + 1)).all (fun j => Nat.beq (rankN (k + j)) 0) else if bcX (exB k) = nI 4 then Nat.blt made 120 && Nat.ble (4 - k / 125 + (4 - k / 25 % 5) + (4 - k / 5 % 5) + (4 - k % 5)) 10 && Nat.beq (gTat (5 * made)) (10 - (4 - k / 125) - (4 - k / 25 % 5) - (4 - k / 5 % 5) - (4 - k % 5)) && Nat.beq (gTat (5 * made + 1)) (4 - k % 5) && Nat.beq (gTat (5 * made + 2)) (4 - k / 5 % 5) && Nat.beq (gTat (5 * made + 3)) (4 - k / 25 % 5) && Nat.beq (gTat (5 * made + 4)) (4 - k / 125) && Nat.beq (rankN k) made && chkG r (k + 1) (made + 1) else Nat.blt made 120 && Nat.beq (rankN k) 0 && chkG r (k + 1) made
theorem chkG_ok : chkG 625 0 0 = true := by decide +kernel
theorem x_bcX {N : Nat} {h : zH} {p : Int32} : f_J6_bitCount_0f7a4 N p h = some (bcX p, h) := rfl
section M99962
variable {GG : Nat → Option zE} {b0 len m N : Nat} {c : Nat → Option zE}
theorem C_group_l (hNN : 1000 < N) : ∀ (r k made fuel : Nat) (c : Nat → Option zE) (G E : Nat → Int32), k + r = 625 → r < fuel → chkG r k made = true → c len = some (.inr (2, [.ref (b0 + (len + 1)), .ref (b0 + (len + 1 + 1))])) → c (len + 1) = some (.inl (0, 600, .inl G)) → c (len + 1 + 1) = some (.inl (0, 625, .inl E)) → (∀ i, i < 5 * made → G i = nI (gTat i)) → (∀ j, j < 625 → E j = if j < k then nI (rankN j) else nI 0) → ∃ (c' : Nat → Option zE) (G' E' : Nat → Int32), f_X2_init_l26 N (b0 + len) fuel (nI made) (nI k) (hC GG b0 c (len + 3) m) = some (hC GG b0 c' (len + 3) m) ∧ (∀ j, j < len + 1 → c' j = c j) ∧ c' (len + 1) = some (.inl (0, 600, .inl G')) ∧ c' (len + 1 + 1) = some (.inl (0, 625, .inl E')) ∧ (∀ i, i < 600 → G' i = nI (gTat i)) ∧ ∀ j, j < 625 → E' j = nI (rankN j) := by
  intro r
  induction r with
  | zero =>
    intro k made fuel c G E hk hf hchk h0 h1 h2 hG hE
    obtain ⟨fuel, rfl⟩ : ∃ m, fuel = m + 1 := ⟨fuel - 1, by omega⟩
    have hm : made = 120 := Nat.eq_of_beq_eq_true hchk
    refine ⟨c, G, E, ?_, fun _ _ => rfl, h1, h2, fun i hi => hG i (by omega), fun j hj => by rw [hE j hj, if_pos (by omega)]⟩
    simp (disch := omega) only [f_X2_init_l26, nlit, nleT, ↓reduceIte]
  | succ r ih =>
    intro k made fuel c G E hk hf hchk h0 h1 h2 hG hE
    obtain ⟨fuel, rfl⟩ : ∃ m, fuel = m + 1 := ⟨fuel - 1, by omega⟩
    unfold chkG at hchk
    by_cases hm : made = 120
    · have hb : Nat.beq made 120 = true := by rw [Nat.beq_eq]; exact hm
      rw [if_pos hb] at hchk
      refine ⟨c, G, E, ?_, fun _ _ => rfl, h1, h2, fun i hi => hG i (by omega), fun j hj => ?_⟩
      · simp (disch := omega) only [f_X2_init_l26, nlit, nleF, nleT, ↓reduceIte]
      · rw [hE j hj]
        by_cases hjk : j < k
        · rw [if_pos hjk]
        · rw [if_neg hjk]
          have := all_of hchk (show j - k < r + 1 by omega)
          rw [Nat.beq_eq, show k + (j - k) = j by omega] at this
          rw [this]
    · have hb : ¬ Nat.beq made 120 = true := by rw [Nat.beq_eq]; exact hm
      rw [if_neg hb] at hchk
      have d5 : zdivI (nI k) (nI 125) = some (nI (k / 125)) := ndivI (by omega) (by omega) (by omega)
      have d6 : zdivI (nI k) (nI 25) = some (nI (k / 25)) := ndivI (by omega) (by omega) (by omega)
      have d7 : zremI (nI (k / 25)) (nI 5) = some (nI (k / 25 % 5)) := nremI (by omega) (by omega) (by omega)
      have d8 : zdivI (nI k) (nI 5) = some (nI (k / 5)) := ndivI (by omega) (by omega) (by omega)
      have d9 : zremI (nI (k / 5)) (nI 5) = some (nI (k / 5 % 5)) := nremI (by omega) (by omega) (by omega)
      have d10 : zremI (nI k) (nI 5) = some (nI (k % 5)) := nremI (by omega) (by omega) (by omega)
      by_cases hp : bcX (exB k) = nI 4
      · rw [if_pos hp] at hchk
        simp only [Bool.and_eq_true, Nat.beq_eq, Nat.blt_eq, Nat.ble_eq] at hchk
        obtain ⟨⟨⟨⟨⟨⟨⟨⟨c1, c2⟩, c3⟩, c4⟩, c5⟩, c6⟩, c7⟩, c8⟩, c9⟩ := hchk
        have hpt : (bcX ((((nI 1 <<< (nI (4 - k / 125) &&& nI 31)) ||| (nI 1 <<< (nI (4 - k / 25 % 5) &&& nI 31))) ||| (nI 1 <<< (nI (4 - k / 5 % 5) &&& nI 31))) ||| (nI 1 <<< (nI (4 - k % 5) &&& nI 31))) = nI 4) = True := eq_true hp
        have g0 := hC_gA (GG := GG) (b0 := b0) (m := m) (c := c) (len := len + 3) (j := len) (k := 0) (x := b0 + (len + 1)) (by omega) h0 rfl
        have s0 := hC_stI (GG := GG) (b0 := b0) (m := m) (c := c) (len := len + 3) (j := len + 1) (k := made * 5) (x := nI (10 - (4 - k / 125) - (4 - k / 25 % 5) - (4 - k / 5 % 5) - (4 - k % 5))) (by omega) h1 (by omega) (by omega)
        have A : ∀ (F : Nat → Int32) (k2 : Nat) (x : Int32), k2 < 600 → stI (hC GG b0 (upC c (len + 1) (.inl (0, 600, .inl F))) (len + 3) m) (b0 + (len + 1)) (nI k2) x = some (hC GG b0 (upC c (len + 1) (.inl (0, 600, .inl (upd F k2 x)))) (len + 3) m) := by
          intro F k2 x hk2
          rw [hC_stI (by omega) (upC_eq _ _ _) hk2 (by omega)]
          congr 2
          funext j
          unfold upC
          split <;> rfl
        have B : ∀ (F : Nat → Int32), gA (hC GG b0 (upC c (len + 1) (.inl (0, 600, .inl F))) (len + 3) m) (b0 + len) 2 0 = some (b0 + (len + 1)) := fun F => hC_gA (by omega) (show upC c (len + 1) (.inl (0, 600, .inl F)) len = _ by rw [upC_ne (by omega)]; exact h0) rfl
        have B1 : ∀ (F : Nat → Int32), gA (hC GG b0 (upC c (len + 1) (.inl (0, 600, .inl F))) (len + 3) m) (b0 + len) 2 1 = some (b0 + (len + 1 + 1)) := fun F => hC_gA (by omega) (show upC c (len + 1) (.inl (0, 600, .inl F)) len = _ by rw [upC_ne (by omega)]; exact h0) rfl
        have D : ∀ (F : Nat → Int32), stI (hC GG b0 (upC c (len + 1) (.inl (0, 600, .inl F))) (len + 3) m) (b0 + (len + 1 + 1)) (nI k) (nI made) = some (hC GG b0 (upC (upC c (len + 1) (.inl (0, 600, .inl F))) (len + 1 + 1) (.inl (0, 625, .inl (upd E k (nI made))))) (len + 3) m) := fun F => hC_stI (by omega) (show upC c (len + 1) (.inl (0, 600, .inl F)) (len + 1 + 1) = _ by rw [upC_ne (by omega)]; exact h2) (by omega) (by omega)
        obtain ⟨c', G', E', i1, i2, i3⟩ := ih (k + 1) (made + 1) fuel (upC (upC c (len + 1) (.inl (0, 600, .inl (upd (upd (upd (upd (upd G (made * 5) (nI (10 - (4 - k / 125) - (4 - k / 25 % 5) - (4 - k / 5 % 5) - (4 - k % 5)))) (made * 5 + 1) (nI (4 - k % 5))) (made * 5 + 2) (nI (4 - k / 5 % 5))) (made * 5 + 3) (nI (4 - k / 25 % 5))) (made * 5 + 4) (nI (4 - k / 125)))))) (len + 1 + 1) (.inl (0, 625, .inl (upd E k (nI made))))) (upd (upd (upd (upd (upd G (made * 5) (nI (10 - (4 - k / 125) - (4 - k / 25 % 5) - (4 - k / 5 % 5) - (4 - k % 5)))) (made * 5 + 1) (nI (4 - k % 5))) (made * 5 + 2) (nI (4 - k / 5 % 5))) (made * 5 + 3) (nI (4 - k / 25 % 5))) (made * 5 + 4) (nI (4 - k / 125))) (upd E k (nI made)) (by omega) (by omega) c9 (by rw [upC_ne (by omega), upC_ne (by omega)]; exact h0) (by rw [upC_ne (by omega), upC_eq]) (upC_eq _ _ _) (fun i hi => by
          by_cases j4 : i = made * 5 + 4
          · rw [j4, upS_eq, show made * 5 + 4 = 5 * made + 4 by omega, c7]
          · rw [upS_ne j4]
            by_cases j3 : i = made * 5 + 3
            · rw [j3, upS_eq, show made * 5 + 3 = 5 * made + 3 by omega, c6]
            · rw [upS_ne j3]
              by_cases j2 : i = made * 5 + 2
              · rw [j2, upS_eq, show made * 5 + 2 = 5 * made + 2 by omega, c5]
              · rw [upS_ne j2]
                by_cases j1 : i = made * 5 + 1
                · rw [j1, upS_eq, show made * 5 + 1 = 5 * made + 1 by omega, c4]
                · rw [upS_ne j1]
                  by_cases j0 : i = made * 5
                  · rw [j0, upS_eq, show made * 5 = 5 * made by omega, c3]
                  · rw [upS_ne j0]
                    exact hG i (by omega)) (fun j hj => by
          by_cases hjk : j = k
          · subst hjk
            rw [upS_eq, if_pos (by omega), c8]
          · rw [upS_ne hjk, hE j hj]
            by_cases h9 : j < k
            · rw [if_pos h9, if_pos (by omega)]
            · rw [if_neg h9, if_neg (by omega)])
        refine ⟨c', G', E', ?_, fun j hj => by rw [i2 j hj, upC_ne (by omega), upC_ne (by omega)], i3⟩
        rw [← i1]
        simp (disch := omega) only [f_X2_init_l26, nlit, nleF, d5, d6, d7, d8, d9, d10, nsub, x_bcX, hpt, zjn, g0, s0, A, B, B1, D, nmul, nadd, ↓reduceIte, Option.bind_some]
      · rw [if_neg hp] at hchk
        simp only [Bool.and_eq_true, Nat.beq_eq, Nat.blt_eq] at hchk
        obtain ⟨⟨c1, c2⟩, c3⟩ := hchk
        have hpt : (bcX ((((nI 1 <<< (nI (4 - k / 125) &&& nI 31)) ||| (nI 1 <<< (nI (4 - k / 25 % 5) &&& nI 31))) ||| (nI 1 <<< (nI (4 - k / 5 % 5) &&& nI 31))) ||| (nI 1 <<< (nI (4 - k % 5) &&& nI 31))) = nI 4) = False := eq_false hp
        obtain ⟨c', G', E', i1, i2⟩ := ih (k + 1) made fuel c G E (by omega) (by omega) c3 h0 h1 h2 hG (fun j hj => by
          rw [hE j hj]
          by_cases hjk : j = k
          · subst hjk
            rw [if_neg (by omega), if_pos (by omega), c2]
          · by_cases h9 : j < k
            · rw [if_pos h9, if_pos (by omega)]
            · rw [if_neg h9, if_neg (by omega)])
        refine ⟨c', G', E', ?_, i2⟩
        rw [← i1]
        simp (disch := omega) only [f_X2_init_l26, nlit, nleF, d5, d6, d7, d8, d9, d10, nsub, x_bcX, hpt, zjn, nadd, ↓reduceIte, Option.bind_some]
theorem C_group (hNN : 1000 < N) (hc : c len = some (.inr (2, [.null, .null]))) : ∃ c', f_X2_init N (b0 + len) (hC GG b0 c (len + 1) m) = some (hC GG b0 c' (len + 3) (m + 1225)) ∧ (∀ j, j < len → c' j = c j) ∧ ∀ h : zH, (∀ j, j < 3 → hM h (b0 + len + j) = c' (len + j)) → GrpAt h (b0 + len) := by
  have n1 := hC_nI (GG := GG) (b0 := b0) (c := c) (len := len + 1) (m := m) (n := 600) (by omega)
  have p1 := hC_pF (GG := GG) (b0 := b0) (m := m + 600) (len := len + 1 + 1) (j := len) (k := 0) (v := .ref (b0 + (len + 1))) (by omega) (show upC c (len + 1) (.inl (0, 600, .inl (fun _ => nI 0))) len = some (.inr (2, [.null, .null])) by rw [upC_ne (by omega)]; exact hc) (by show 0 < 2; omega)
  generalize hc1 : upC (upC c (len + 1) (.inl (0, 600, .inl (fun _ => nI 0)))) len (.inr (2, [Value.null, .null].set 0 (.ref (b0 + (len + 1))))) = ca at p1
  have n2 := hC_nI (GG := GG) (b0 := b0) (c := ca) (len := len + 1 + 1) (m := m + 600) (n := 625) (by omega)
  have p2 := hC_pF (GG := GG) (b0 := b0) (m := m + 600 + 625) (len := len + 1 + 1 + 1) (j := len) (k := 1) (v := .ref (b0 + (len + 1 + 1))) (by omega) (show upC ca (len + 1 + 1) (.inl (0, 625, .inl (fun _ => nI 0))) len = some (.inr (2, [Value.null, .null].set 0 (.ref (b0 + (len + 1))))) by rw [upC_ne (by omega), ← hc1, upC_eq]) (by show 1 < 2; omega)
  obtain ⟨c', G', E', i1, i2, i3, i4, i5, i6⟩ := C_group_l (N := N) (GG := GG) (b0 := b0) (len := len) (m := m + 600 + 625) hNN 625 0 0 N (upC (upC ca (len + 1 + 1) (.inl (0, 625, .inl (fun _ => nI 0)))) len (.inr (2, ([Value.null, .null].set 0 (.ref (b0 + (len + 1)))).set 1 (.ref (b0 + (len + 1 + 1)))))) (fun _ => nI 0) (fun _ => nI 0) (by omega) (by omega) chkG_ok (upC_eq _ _ _) (by rw [upC_ne (by omega), upC_ne (by omega), ← hc1, upC_ne (by omega), upC_eq]) (by rw [upC_ne (by omega), upC_eq]) (fun i hi => absurd hi (by omega)) (fun j hj => by rw [if_neg (by omega)])
  refine ⟨c', ?_, fun j hj => ?_, fun h hh => ?_⟩
  · refine Eq.trans ?_ i1
    simp only [f_X2_init, nlit, n1, p1, n2, p2, Option.bind_some]
  · rw [i2 j (by omega), upC_ne (by omega), upC_ne (by omega), ← hc1, upC_ne (by omega), upC_ne (by omega)]
  · have a0 := hh 0 (by omega)
    have a1 := hh 1 (by omega)
    have a2 := hh 2 (by omega)
    refine ⟨?_, ⟨G', a1.trans i3, i5⟩, ⟨E', a2.trans i4, i6⟩⟩
    refine a0.trans ((i2 len (by omega)).trans ?_)
    rw [upC_eq]
    rfl
end M99962

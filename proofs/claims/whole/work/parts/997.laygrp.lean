/-! ===== the model lays the group's tables ===== -/
theorem cntE_le (n v : Nat) : ∀ M, cntE n v M ≤ M
  | 0 => Nat.le_refl 0
  | M + 1 => by
    have := cntE_le n v M
    unfold cntE
    split <;> omega
theorem cntE_step {n v : Nat} (hn : inN n) : ∀ M, M ≤ fctN n → (∃ e, e < M ∧ numN n e = v) ∧ cntE n (v + 1) M = cntE n v M + 1 ∨ (¬ ∃ e, e < M ∧ numN n e = v) ∧ cntE n (v + 1) M = cntE n v M
  | 0, _ => Or.inr ⟨fun ⟨e, h, _⟩ => absurd h (Nat.not_lt_zero e), rfl⟩
  | M + 1, hM => by
    have ih := cntE_step (v := v) hn M (by omega)
    have u1 : ∀ w, cntE n w (M + 1) = cntE n w M + (if Nat.blt (numN n M) w = true then 1 else 0) := fun _ => rfl
    rw [u1, u1]
    by_cases hv : numN n M = v
    · have h0 : ¬ ∃ e, e < M ∧ numN n e = v := fun ⟨e, h1, h2⟩ => by
        have := (num_inj hn (show e < fctN n by omega) (show M < fctN n by omega)).mp (h2.trans hv.symm)
        omega
      have b1 : Nat.blt (numN n M) (v + 1) = true := by rw [Nat.blt_eq]; omega
      have b2 : ¬ Nat.blt (numN n M) v = true := by rw [Nat.blt_eq]; omega
      rw [if_pos b1, if_neg b2]
      rcases ih with ⟨h1, -⟩ | ⟨-, h2⟩
      · exact absurd h1 h0
      · exact Or.inl ⟨⟨M, by omega, hv⟩, by omega⟩
    · have b1 : (if Nat.blt (numN n M) (v + 1) = true then 1 else 0) = (if Nat.blt (numN n M) v = true then 1 else 0) := by
        by_cases hlt : numN n M < v
        · rw [if_pos (by rw [Nat.blt_eq]; omega), if_pos (by rw [Nat.blt_eq]; omega)]
        · rw [if_neg (by rw [Nat.blt_eq]; omega), if_neg (by rw [Nat.blt_eq]; omega)]
      rw [b1]
      rcases ih with ⟨⟨e, h1, h2⟩, h3⟩ | ⟨h1, h2⟩
      · exact Or.inl ⟨⟨e, by omega, h2⟩, by omega⟩
      · refine Or.inr ⟨fun ⟨e, h3, h4⟩ => h1 ⟨e, ?_, h4⟩, by omega⟩
        have : e ≠ M := fun h9 => hv (h9 ▸ h4)
        omega
theorem cntE_mono {n v w : Nat} (h : v ≤ w) : ∀ M, cntE n v M ≤ cntE n w M
  | 0 => Nat.le_refl 0
  | M + 1 => by
    have := cntE_mono (n := n) h M
    unfold cntE
    by_cases h1 : numN n M < v
    · rw [if_pos (by rw [Nat.blt_eq]; omega), if_pos (by rw [Nat.blt_eq]; omega)]
      omega
    · rw [if_neg (by rw [Nat.blt_eq]; omega)]
      split <;> omega
theorem cntE_all {n v : Nat} : ∀ M, (∀ e, e < M → numN n e < v) → cntE n v M = M
  | 0, _ => rfl
  | M + 1, h => by
    have := cntE_all (n := n) M (fun e he => h e (by omega))
    unfold cntE
    rw [if_pos (by rw [Nat.blt_eq]; exact h M (by omega)), this]
theorem cntE_none {n v : Nat} : ∀ M, (∀ e, e < M → v ≤ numN n e) → cntE n v M = 0
  | 0, _ => rfl
  | M + 1, h => by
    have := cntE_none (n := n) M (fun e he => h e (by omega))
    have h2 := h M (by omega)
    unfold cntE
    rw [if_neg (by rw [Nat.blt_eq]; omega), this]
theorem pi_succ {n e : Nat} (hn : inN n) (he : e < fctN n) : cntE n (numN n e + 1) (fctN n) = piN n e + 1 := by
  rcases cntE_step (v := numN n e) hn (fctN n) (Nat.le_refl _) with ⟨-, h⟩ | ⟨h, -⟩
  · exact h
  · exact absurd ⟨e, he, rfl⟩ h
theorem pi_lt {n e : Nat} (hn : inN n) (he : e < fctN n) : piN n e < fctN n := by
  have h1 := pi_succ hn he
  have h2 := cntE_le n (numN n e + 1) (fctN n)
  omega
theorem pi_inj {n e f : Nat} (hn : inN n) (he : e < fctN n) (hf : f < fctN n) (h : piN n e = piN n f) : e = f := by
  rcases Nat.lt_trichotomy (numN n e) (numN n f) with h1 | h1 | h1
  · have h2 := pi_succ hn he
    have h3 := cntE_mono (n := n) (show numN n e + 1 ≤ numN n f by omega) (fctN n)
    have : piN n f = cntE n (numN n f) (fctN n) := rfl
    omega
  · exact (num_inj hn he hf).mp h1
  · have h2 := pi_succ hn hf
    have h3 := cntE_mono (n := n) (show numN n f + 1 ≤ numN n e by omega) (fctN n)
    have : piN n e = cntE n (numN n e) (fctN n) := rfl
    omega
def numB (n : Nat) : Bool := (List.range (fctN n)).all fun e => Nat.ble (numN n 0) (numN n e) && Nat.ble (numN n e) 54321
theorem numB2 : numB 2 = true := by decide +kernel
theorem numB3 : numB 3 = true := by decide +kernel
theorem numB4 : numB 4 = true := by decide +kernel
theorem numB5 : numB 5 = true := by decide +kernel
theorem num_bd {n e : Nat} (hn : inN n) (he : e < fctN n) : numN n 0 ≤ numN n e ∧ numN n e ≤ 54321 := by
  have : numB n = true := by
    rcases hn with rfl | rfl | rfl | rfl
    · exact numB2
    · exact numB3
    · exact numB4
    · exact numB5
  have h := all_of this he
  rw [Bool.and_eq_true, Nat.ble_eq, Nat.ble_eq] at h
  exact h
def permB (n : Nat) : Bool := ((List.range (fctN n)).map (piN n)).isPerm (List.range (fctN n))
theorem permB2 : permB 2 = true := by decide +kernel
theorem permB3 : permB 3 = true := by decide +kernel
theorem permB4 : permB 4 = true := by decide +kernel
theorem permB5 : permB 5 = true := by decide +kernel
theorem pi_perm {n : Nat} (hn : inN n) : ((List.range (fctN n)).map (piN n)).Perm (List.range (fctN n)) := by
  have : permB n = true := by
    rcases hn with rfl | rfl | rfl | rfl
    · exact permB2
    · exact permB3
    · exact permB4
    · exact permB5
  exact List.isPerm_iff.mp this
theorem pi_sur {n i : Nat} (hn : inN n) (hi : i < fctN n) : ∃ e, e < fctN n ∧ piN n e = i := by
  have h := (pi_perm hn).mem_iff.mpr (List.mem_range.mpr hi)
  obtain ⟨e, h1, h2⟩ := List.mem_map.mp h
  exact ⟨e, List.mem_range.mp h1, h2⟩
section M997
variable {h : zH} {m N : Nat} {S B E : Nat → Int32} {H : Nat → Nat → Int32} {J : Nat → Int64} {L U Z W : Nat → Int32} {d : Nat → Nat}
theorem m_lay_l {n : Nat} (hNN : 10 < N) (hn : inN n) : ∀ (r v fuel : Nat) (S L U : Nat → Int32), v + r = 54322 → r < fuel → S 20 = nI n → S 19 = nI (cntE n v (fctN n)) → (∀ e, e < fctN n → numN n e < v → U (numN n e) = nI (piN n e) ∧ L (piN n e) = nI (numN n e)) → ∃ L' U' : Nat → Int32, f_X9_layGroup_l37 N m fuel (nI v) (mset h m S B (dI d) E H J L U Z W) = some (mset h m (upd S 19 (nI (fctN n))) B (dI d) E H J L' U' Z W) ∧ LaidT n L' U' := by
  have hf := fct_le hn
  intro r
  induction r with
  | zero =>
    intro v fuel S L U hv hfu h20 h19 hLU
    obtain ⟨fuel, rfl⟩ : ∃ m, fuel = m + 1 := ⟨fuel - 1, by omega⟩
    have hv' : v = 54322 := by omega
    subst hv'
    refine ⟨L, U, ?_, fun e he => hLU e he (by have := (num_bd hn he).2; omega)⟩
    have ea := cntE_all (n := n) (v := 54322) (fctN n) (fun e he => by have := (num_bd hn he).2; omega)
    rw [ea] at h19
    rw [upS_same h19]
    simp (disch := omega) only [f_X9_layGroup_l37, nlit, nltT, ↓reduceIte]
  | succ r ih =>
    intro v fuel S L U hv hfu h20 h19 hLU
    obtain ⟨fuel, rfl⟩ : ∃ m, fuel = m + 1 := ⟨fuel - 1, by omega⟩
    have k1 := m_isElementI (N := N) (h := mset h m S B (dI d) E H J L U Z W) hNN hn (nI v)
    rw [eltI_nI (by omega)] at k1
    have cl := cntE_le n v (fctN n)
    rcases cntE_step (v := v) hn (fctN n) (Nat.le_refl _) with ⟨⟨e, he, hev⟩, hst⟩ | ⟨hno, hst⟩
    · have he2 : eltN n v = some e := by rw [← hev]; exact elt_num hn he
      rw [he2] at k1
      have k1' : f_X9_isElement N (nI v) (nI n) (mset h m S B (dI d) E H J L U Z W) = some (nI 1, mset h m S B (dI d) E H J L U Z W) := k1
      have hpe : piN n e = cntE n v (fctN n) := by unfold piN; rw [hev]
      have hc120 : cntE n v (fctN n) < 120 := by have := pi_lt hn he; omega
      obtain ⟨L', U', i1, i2⟩ := ih (v + 1) fuel (upd S 19 (nI (cntE n v (fctN n) + 1))) (upd L (cntE n v (fctN n)) (nI v)) (upd U v (nI (cntE n v (fctN n)))) (by omega) (by omega) (by rw [upS_ne (by omega)]; exact h20) (by rw [upS_eq, hst]) (fun f hf2 hfv => by
        by_cases hfe : f = e
        · subst hfe
          rw [hev, hpe, upS_eq, upS_eq]
          exact ⟨rfl, rfl⟩
        · have h1 : numN n f ≠ v := fun h9 => hfe ((num_inj hn hf2 he).mp (h9.trans hev.symm))
          have h2 := hLU f hf2 (by omega)
          have h3 := pi_succ hn hf2
          have h4 := cntE_mono (n := n) (show numN n f + 1 ≤ v by omega) (fctN n)
          rw [upS_ne h1, upS_ne (by omega)]
          exact h2)
      refine ⟨L', U', ?_, i2⟩
      rw [upS_upS] at i1
      rw [← i1]
      have e0 : ((nI 1 : Int32) = nI 0) = False := eq_false (by decide)
      simp (disch := omega) only [f_X9_layGroup_l37, h20, h19, k1', e0, zjn, upS_eq, upS_ne, nlit, nltT, nltF, nleT, nleF, neqT, neqF, nadd, nmul, nsub, ↓reduceIte, Option.bind_some, onO_ms, gI_ms, gA_ms, pF_ms, ldI_ms, stI_ms, dI_app, updI, upN_eq, upN_ne, Nat.add_zero, Nat.zero_add]
    · have he2 : eltN n v = none := by
        cases hx : eltN n v with
        | none => rfl
        | some e =>
          obtain ⟨-, h1, h2⟩ := elt_some hn hx
          exact absurd ⟨e, h1, h2⟩ hno
      rw [he2] at k1
      have k1' : f_X9_isElement N (nI v) (nI n) (mset h m S B (dI d) E H J L U Z W) = some (nI 0, mset h m S B (dI d) E H J L U Z W) := k1
      obtain ⟨L', U', i1, i2⟩ := ih (v + 1) fuel S L U (by omega) (by omega) h20 (by rw [hst]; exact h19) (fun f hf2 hfv => hLU f hf2 (by
        have : numN n f ≠ v := fun h9 => hno ⟨f, hf2, h9⟩
        omega))
      refine ⟨L', U', ?_, i2⟩
      rw [← i1]
      have e0 : ((nI 0 : Int32) = nI 0) = True := eq_true rfl
      simp (disch := omega) only [f_X9_layGroup_l37, h20, h19, k1', e0, zjn, upS_eq, upS_ne, nlit, nltT, nltF, nleT, nleF, neqT, neqF, nadd, nmul, nsub, ↓reduceIte, Option.bind_some, onO_ms, gI_ms, gA_ms, pF_ms, ldI_ms, stI_ms, dI_app, updI, upN_eq, upN_ne, Nat.add_zero, Nat.zero_add]
theorem m_layGroup (hNN : 54400 < N) (hn : inN (d 0)) (hL : LaidOK (S 20) (S 19) L U) : ∃ (L' U' : Nat → Int32), f_X9_layGroup N m (mset h m S B (dI d) E H J L U Z W) = some (mset h m (upd (upd S 20 (nI (d 0))) 19 (nI (fctN (d 0)))) B (dI d) E H J L' U' Z W) ∧ LaidT (d 0) L' U' := by
  have hf := fct_le hn
  have h5 : d 0 ≤ 5 := by rcases hn with h9 | h9 | h9 | h9 <;> omega
  by_cases h0 : S 20 = nI (d 0)
  · rcases hL with h1 | ⟨n, n1, n2, n3, n4⟩
    · exfalso
      rw [h1] at h0
      have := neq (a := 0) (b := d 0) (by omega) (by omega)
      rw [this] at h0
      rcases hn with h9 | h9 | h9 | h9 <;> omega
    · have hnd : n = d 0 := by
        rw [n2] at h0
        have hn5 : n ≤ 5 := by rcases n1 with h9 | h9 | h9 | h9 <;> omega
        rw [neq (by omega) (by omega)] at h0
        exact h0
      subst hnd
      refine ⟨L, U, ?_, n4⟩
      have e1 : upd (upd S 20 (nI (d 0))) 19 (nI (fctN (d 0))) = S := by
        rw [upS_same n2, upS_same n3]
      rw [e1]
      simp (disch := omega) only [f_X9_layGroup, h0, neqT, nlit, nltT, nltF, nleT, nleF, neqT, neqF, nadd, nmul, nsub, ↓reduceIte, Option.bind_some, onO_ms, gI_ms, gA_ms, pF_ms, ldI_ms, stI_ms, dI_app, updI, upN_eq, upN_ne, Nat.add_zero, Nat.zero_add]
  · obtain ⟨L', U', q1, q2⟩ := m_lay_l (N := N) (h := h) (m := m) (B := B) (E := E) (H := H) (J := J) (Z := Z) (W := W) (d := d) (by omega) hn (54322 - numN (d 0) 0) (numN (d 0) 0) N (upd (upd S 20 (nI (d 0))) 19 (nI 0)) L U (by have := (num_bd hn (Nat.lt_trans Nat.zero_lt_one (fct_pos hn))).2; omega) (by omega) (by rw [upS_ne (by omega), upS_eq]) (by rw [upS_eq, cntE_none (fctN (d 0)) (fun e he => (num_bd hn he).1)]) (fun e he h9 => by have := (num_bd hn he).1; omega)
    refine ⟨L', U', ?_, q2⟩
    rw [upS_upS] at q1
    rw [← q1]
    have k1 := m_neutral (N := N) (h := mset h m (upd (upd S 20 (nI (d 0))) 19 (nI 0)) B (dI d) E H J L U Z W) hn
    have e0 : (S 20 = nI (d 0)) = False := eq_false h0
    simp (disch := omega) only [f_X9_layGroup, e0, k1, upS_eq, upS_ne, nlit, nltT, nltF, nleT, nleF, neqT, neqF, nadd, nmul, nsub, ↓reduceIte, Option.bind_some, onO_ms, gI_ms, gA_ms, pF_ms, ldI_ms, stI_ms, dI_app, updI, upN_eq, upN_ne, Nat.add_zero, Nat.zero_add]
end M997

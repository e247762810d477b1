/-! ===== the model's changes ===== -/
theorem b2_t' : b2 true = nI 1 := rfl
theorem b2_f' : b2 false = nI 0 := rfl
theorem zB_0' : zB (nI 0) = some (nI 0) := zB_0
theorem zB_1' : zB (nI 1) = some (nI 1) := zB_1
/-- an int that tells a place before k -/
def inP (x : Int32) (k : Nat) : Prop := ∃ v, v < k ∧ x = nI v
theorem inP_cases (x : Int32) (k : Nat) : inP x k ∨ (¬ inP x k ∧ (x < 0 ∨ ∃ v : Nat, v < 2 ^ 31 ∧ k ≤ v ∧ x = nI v)) := by
  by_cases h : inP x k
  · exact Or.inl h
  · refine Or.inr ⟨h, ?_⟩
    rcases i32_cases x with h1 | ⟨v, hv, rfl⟩
    · exact Or.inl h1
    · refine Or.inr ⟨v, hv, ?_, rfl⟩
      rcases Nat.lt_or_ge v k with h2 | h2
      · exact absurd ⟨v, h2, rfl⟩ h
      · exact h2
def turnN (d : Nat → Nat) : Nat → Nat := upN d 4 ((d 4 + 1) % d 1)
def lotN (d : Nat → Nat) : Nat → Nat := upN (upN (upN (upN d 3 (d 3 + 1)) 5 0) 7 0) 6 0
/-- the bids' product is neutral -/
def winN (d : Nat → Nat) : Bool := Nat.blt 0 (d 5) && Nat.beq (prodF (bidE d) (d 5) 0 0) 0
theorem winN_iff (d : Nat → Nat) : winN d = true ↔ (0 < d 5 ∧ prodF (bidE d) (d 5) 0 0 = 0) := by
  simp [winN]
/-- the winner is paid, the next lot comes -/
def payN (d : Nat → Nat) (p : Nat) : Nat → Nat := lotN (upN (upN d (11 + 19 * p) (d (11 + 19 * p) + (d (106 + d 3) + d 6))) (11 + 19 * p + 2) (d (11 + 19 * p + 2) + 1))
def finN (d : Nat → Nat) (p : Nat) : Nat → Nat := if winN d then turnN (payN (upN d 7 0) p) else turnN (upN d 7 0)
def passN (d : Nat → Nat) : Nat → Nat := if d 7 + 1 = d 1 then turnN (lotN (upN (upN d 7 (d 7 + 1)) 8 (d 8 + d 6))) else turnN (upN d 7 (d 7 + 1))
def giveN (d : Nat → Nat) (p e b : Nat) : Nat → Nat := upN (upN (upN d (11 + 19 * p + 3 + 2 * d (11 + 19 * p + 1)) e) (11 + 19 * p + 3 + 2 * d (11 + 19 * p + 1) + 1) b) (11 + 19 * p + 1) (d (11 + 19 * p + 1) + 1)
def RemH (H H' : Nat → Nat → Int32) (D : Nat → Int32) (q : Nat) : Prop := (∀ i, i < 1378 → H' (q - forg q) i = D i) ∧ (∀ j i, j < q - forg q → i < 1378 → H' j i = H (j + forg q) i)
theorem bidE_up {d : Nat → Nat} {k x : Nat} (hk : k ≠ 0) (hk2 : k < 118) : bidE (upN d k x) = bidE d := by
  funext j
  unfold bidE
  rw [upN_ne (by omega), upN_ne (by omega)]
section M63
variable {h : zH} {m N : Nat} {S B D E : Nat → Int32} {H : Nat → Nat → Int32} {J : Nat → Int64} {L U Z W : Nat → Int32} {d : Nat → Nat}
theorem m_in0 {x : Int32} {k : Nat} {g : zH} (hk : k < 2 ^ 31) (hx : inP x k) : f_X9_in N x (nI 0) (nI k - nI 1) g = some (nI 1, g) := by
  obtain ⟨v, hv, rfl⟩ := hx
  rw [nsub (by omega)]
  simp (disch := omega) only [f_X9_in, nlit, nlt, if_neg]
theorem i32_neg {x : Int32} (hx : x < 0) : x < nI 0 := hx
theorem m_in0' {x : Int32} {k : Nat} {g : zH} (hk : k < 2 ^ 31) (hx : ¬ inP x k) : f_X9_in N x (nI 0) (nI k - nI 1) g = some (nI 0, g) := by
  rcases inP_cases x k with h1 | ⟨_, h1 | ⟨v, hv, hkv, rfl⟩⟩
  · exact absurd h1 hx
  · rw [f_X9_in, if_pos (i32_neg h1)]
    rfl
  · by_cases hk0 : k = 0
    · subst hk0
      have e : nI 0 - nI 1 < nI v := by
        rw [Int32.lt_iff_toInt_lt, nI_toInt (by omega), show (nI 0 - nI 1).toInt = -1 from by decide]
        omega
      have e2 : ¬ nI v < nI 0 := nI_pos hv
      rw [f_X9_in, if_neg e2, if_pos e]
      rfl
    · rw [nsub (by omega)]
      simp (disch := omega) only [f_X9_in, nlit, nlt, if_neg, if_pos]
theorem m_finish (hN : 100 < N) {p : Nat} (hp : p < 5) (hn : inN (d 0)) (h5 : d 5 ≤ 20) (hb : ∀ k, k < d 5 → isN (d 0) (d (118 + 3 * k + 1))) (h1 : 0 < d 1) (h1' : d 1 < 100) (h4 : d 4 < 100) (h3 : d 3 < 12) (hm : d (11 + 19 * p) + (d (106 + d 3) + d 6) ≤ 999999) : f_X9_finish N m (nI p) (mset h m S B (dI d) E H J L U Z W) = some (b2 (winN d), (mset h m S B (dI (finN d p)) E H J L U Z W)) := by
  have ho := winN_iff d
  have hn5 := inN_le hn
  have p0 : 0 < fctN (d 0) := Nat.lt_trans Nat.zero_lt_one (fct_pos hn)
  by_cases c1 : d 5 = 0
  · have hw : winN d = false := by
      cases hb : winN d with
      | false => rfl
      | true => exact absurd (ho.mp hb).1 (by omega)
    rw [hw, finN, if_neg (by rw [hw]; decide)]
    simp (disch := first | omega | (simp (disch := omega) only [upN_ne, upN_eq] <;> omega)) only [f_X9_finish, f_X9_finish_j37, f_X9_finish_j38, f_X9_finish_j89, m_nextTurn, nlit, nlt, nle, neq, nadd, nmul, nsub, if_pos, if_neg, if_true, if_false, Option.bind_some, onO_ms, gI_ms, gA_ms, pF_ms, ldI_ms, stI_ms, dI_app, updI, upN_eq, upN_ne, Nat.add_zero, Nat.zero_add]
    rfl
  · have pn := m_productNow (h := h) (m := m) (S := S) (B := B) (E := E) (H := H) (J := J) (L := L) (U := U) (Z := Z) (W := W) (d := upN d 7 0) hN (by rw [upN_ne (by omega)]; exact hn) (by rw [upN_ne (by omega)]; exact h5) (by
      intro k hk
      rw [upN_ne (by omega)] at hk ⊢
      rw [upN_ne (by omega)]
      exact hb k hk)
    rw [upN_ne (by omega), upN_ne (by omega), bidE_up (by omega) (by omega)] at pn
    have l1 : prodF (bidE d) (d 5) 0 0 < fctN (d 0) := prodF_in hn _ _ _ _ p0 (fun j _ hj => (isN_idx hn (hb j (by omega))).1)
    have l2 := num_lt hn (Nat.lt_of_lt_of_le l1 (fct_le hn))
    have l3 := num_lt hn (e := 0) (by omega)
    by_cases c2 : prodF (bidE d) (d 5) 0 0 = 0
    · have hw : winN d = true := ho.mpr ⟨by omega, c2⟩
      rw [hw, finN, if_pos hw]
      simp (disch := first | omega | (simp (disch := omega) only [upN_ne, upN_eq] <;> omega)) only [f_X9_finish, f_X9_finish_j37, f_X9_finish_j38, f_X9_finish_j89, pn, m_neutral hn, m_nextTurn, m_nextLot, m_payInto, m_at, nlit, nlt, nle, neq, nadd, nmul, nsub, if_pos, if_neg, if_true, if_false, Option.bind_some, onO_ms, gI_ms, gA_ms, pF_ms, ldI_ms, stI_ms, dI_app, updI, upN_eq, upN_ne, Nat.add_zero, Nat.zero_add]
      rw [if_pos (by rw [c2])]
      simp (disch := omega) only [turnN, payN, lotN, upN_eq, upN_ne, b2_t']
    · have hw : winN d = false := by
        cases hb : winN d with
        | false => rfl
        | true => exact absurd (ho.mp hb).2 c2
      rw [hw, finN, if_neg (by rw [hw]; decide)]
      have c3 : ¬ numN (d 0) (prodF (bidE d) (d 5) 0 0) = numN (d 0) 0 := by rw [num_inj hn l1 p0]; exact c2
      simp (disch := first | omega | (simp (disch := omega) only [upN_ne, upN_eq] <;> omega)) only [f_X9_finish, f_X9_finish_j37, f_X9_finish_j38, f_X9_finish_j89, pn, m_neutral hn, m_nextTurn, nlit, nlt, nle, neq, nadd, nmul, nsub, if_pos, if_neg, if_true, if_false, Option.bind_some, onO_ms, gI_ms, gA_ms, pF_ms, ldI_ms, stI_ms, dI_app, updI, upN_eq, upN_ne, Nat.add_zero, Nat.zero_add]
      rfl
theorem m_pass (hN : 1400 < N) {q : Nat} (hq : q ≤ 8) (hS : S 11 = nI q) (h1' : d 1 < 100) (h2 : d 2 < 100) (h3 : d 3 < 100) (h4 : d 4 < 100) (h6 : d 6 < 1000000) (h7 : d 7 < 100) (h8 : d 8 < 1000000) (ho : overN d = false) : ∃ H', f_X9_pass N m (mset h m S B (dI d) E H J L U Z W) = some (b2 (decide (d 7 + 1 = d 1)), mset h m (upd (upd S 0 (nI 0)) 11 (nI (q - forg q + 1))) B (dI (passN d)) E H' J L U Z W) ∧ RemH H H' (dI d) q := by
  obtain ⟨H', e1, e2⟩ := m_remember (h := h) (m := m) (S := upd S 0 (nI 0)) (B := B) (D := dI d) (E := E) (H := H) (J := J) (L := L) (U := U) (Z := Z) (W := W) hN hq (by rw [upS_ne (by omega)]; exact hS)
  refine ⟨H', ?_, e2⟩
  have h1 : 0 < d 1 := by
    rcases Nat.eq_zero_or_pos (d 1) with h0 | h0
    · have := (overN_iff d).mpr (Or.inl h0)
      rw [ho] at this
      cases this
    · exact h0
  by_cases c : d 7 + 1 = d 1
  · rw [decide_eq_true c, passN, if_pos c]
    simp (disch := first | omega | (simp (disch := omega) only [upN_ne, upN_eq] <;> omega)) only [f_X9_pass, f_X9_pass_j55, f_X9_pass_j81, f_X9_fails, f_X9_fails_j16, m_isOver, ho, b2_f', e1, upS_eq, upS_ne, m_nextTurn, m_nextLot, nlit, nlt, nle, neq, nadd, nmul, nsub, if_pos, if_neg, if_true, if_false, Option.bind_some, onO_ms, gI_ms, gA_ms, pF_ms, ldI_ms, stI_ms, dI_app, updI, upN_eq, upN_ne, Nat.add_zero, Nat.zero_add]
    rfl
  · rw [decide_eq_false c, passN, if_neg c]
    simp (disch := first | omega | (simp (disch := omega) only [upN_ne, upN_eq] <;> omega)) only [f_X9_pass, f_X9_pass_j55, f_X9_pass_j81, f_X9_fails, f_X9_fails_j16, m_isOver, ho, b2_f', e1, upS_eq, upS_ne, m_nextTurn, m_nextLot, nlit, nlt, nle, neq, nadd, nmul, nsub, if_pos, if_neg, if_true, if_false, Option.bind_some, onO_ms, gI_ms, gA_ms, pF_ms, ldI_ms, stI_ms, dI_app, updI, upN_eq, upN_ne, Nat.add_zero, Nat.zero_add]
    rfl
theorem m_pass_over (h1' : d 1 < 100) (h2 : d 2 < 100) (h3 : d 3 < 100) (ho : overN d = true) : f_X9_pass N m (mset h m S B (dI d) E H J L U Z W) = some (nI 0, mset h m (upd S 0 (nI 1)) B (dI d) E H J L U Z W) := by
  simp (disch := omega) only [f_X9_pass, f_X9_fails, f_X9_fails_j16, m_isOver, ho, b2_t', upS_eq, upS_ne, upS_upS, nlit, nlt, nle, neq, nadd, nmul, nsub, if_pos, if_neg, if_true, if_false, Option.bind_some, onO_ms, gI_ms, gA_ms, pF_ms, ldI_ms, stI_ms, dI_app, updI, upN_eq, upN_ne, Nat.add_zero, Nat.zero_add]
theorem m_undo (hN : 1400 < N) {q : Nat} (hq : q < 8) (hS : S 11 = nI (q + 1)) : f_X9_undo N m (mset h m S B D E H J L U Z W) = some (nI q, mset h m (upd (upd S 0 (nI 0)) 11 (nI q)) B (cpyI (H q) D) E H J L U Z W) := by
  simp (disch := omega) only [f_X9_undo, upS_eq, upS_ne, hS, ldQ_ms, m_copyHD hN, Nat.add_sub_cancel, nlit, nlt, nle, neq, nadd, nmul, nsub, if_pos, if_neg, if_true, if_false, Option.bind_some, onO_ms, gI_ms, gA_ms, pF_ms, ldI_ms, stI_ms, dI_app, updI, upN_eq, upN_ne, Nat.add_zero, Nat.zero_add]
theorem m_undo0 (hS : S 11 = nI 0) : f_X9_undo N m (mset h m S B D E H J L U Z W) = some (-nI 1, mset h m (upd S 0 (nI 0)) B D E H J L U Z W) := by
  simp (disch := omega) only [f_X9_undo, upS_eq, upS_ne, hS, nlit, nlt, nle, neq, nadd, nmul, nsub, if_pos, if_neg, if_true, if_false, Option.bind_some, onO_ms, gI_ms, gA_ms, pF_ms, ldI_ms, stI_ms, dI_app, updI, upN_eq, upN_ne, Nat.add_zero, Nat.zero_add]
theorem m_noPlayer {x : Int32} (h1 : d 1 < 100) (h0 : S 0 = nI 0) (hx : inP x (d 1)) : f_X9_noPlayer N m x (mset h m S B (dI d) E H J L U Z W) = some (nI 0, (mset h m S B (dI d) E H J L U Z W)) := by
  simp (disch := omega) only [f_X9_noPlayer, f_X9_noPlayer_j22, f_X9_fails, f_X9_fails_j16, nlit, nlt, nle, neq, nadd, nmul, if_pos, if_neg, if_true, if_false, Option.bind_some, onO_ms, gI_ms, gA_ms, pF_ms, ldI_ms, stI_ms, dI_app, updI, upN_eq, upN_ne, Nat.add_zero, Nat.zero_add, m_in0 (N := N) (show d 1 < 2 ^ 31 by omega) hx, h0, zB_0']
theorem m_noPlayer' {x : Int32} (h1 : d 1 < 100) (h0 : S 0 = nI 0) (hx : ¬ inP x (d 1)) : f_X9_noPlayer N m x (mset h m S B (dI d) E H J L U Z W) = some (nI 1, mset h m (upd S 0 (nI 1)) B (dI d) E H J L U Z W) := by
  simp (disch := omega) only [f_X9_noPlayer, f_X9_noPlayer_j22, f_X9_fails, f_X9_fails_j16, nlit, nlt, nle, neq, nadd, nmul, if_pos, if_neg, if_true, if_false, Option.bind_some, onO_ms, gI_ms, gA_ms, pF_ms, ldI_ms, stI_ms, dI_app, updI, upN_eq, upN_ne, Nat.add_zero, Nat.zero_add, m_in0' (N := N) (show d 1 < 2 ^ 31 by omega) hx, h0, upS_eq, zB_1']
theorem m_noElement (hN : 10 < N) {x y : Int32} (hn : inN (d 0)) (h0 : S 0 = nI 0) (hx : (eltI (d 0) x).isSome = true) : f_X9_noElement N m x y (mset h m S B (dI d) E H J L U Z W) = some (nI 0, (mset h m S B (dI d) E H J L U Z W)) := by
  simp (disch := omega) only [f_X9_noElement, f_X9_noElement_j19, f_X9_fails, f_X9_fails_j16, nlit, nlt, nle, neq, nadd, nmul, if_pos, if_neg, if_true, if_false, Option.bind_some, onO_ms, gI_ms, gA_ms, pF_ms, ldI_ms, stI_ms, dI_app, updI, upN_eq, upN_ne, Nat.add_zero, Nat.zero_add, m_isElementI hN hn, hx, b2_t', h0, zB_0']
theorem m_noElement' (hN : 10 < N) {x : Int32} {y : Nat} (hn : inN (d 0)) (h0 : S 0 = nI 0) (hx : (eltI (d 0) x).isSome = false) (hy : 0 < y) (hy2 : y < 10) : f_X9_noElement N m x (nI y) (mset h m S B (dI d) E H J L U Z W) = some (nI 1, mset h m (upd S 0 (nI y)) B (dI d) E H J L U Z W) := by
  simp (disch := omega) only [f_X9_noElement, f_X9_noElement_j19, f_X9_fails, f_X9_fails_j16, nlit, nlt, nle, neq, nadd, nmul, if_pos, if_neg, if_true, if_false, Option.bind_some, onO_ms, gI_ms, gA_ms, pF_ms, ldI_ms, stI_ms, dI_app, updI, upN_eq, upN_ne, Nat.add_zero, Nat.zero_add, m_isElementI hN hn, hx, b2_f', h0, upS_eq, zB_1']
end M63

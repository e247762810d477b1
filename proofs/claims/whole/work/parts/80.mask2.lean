/-! ===== the model's questions about the state ===== -/
section M80
variable {h : zH} {m N : Nat} {S B D E : Nat → Int32} {H : Nat → Nat → Int32} {J J' : Nat → Int64} {L U Z W : Nat → Int32} {d : Nat → Nat}
theorem m_inK {x : Int32} {k : Nat} {g : zH} (hk : k < 2 ^ 30) (hx : inP x (k + 1)) : f_X9_in N x (nI 0) (nI k) g = some (nI 1, g) := by
  have := m_in0 (N := N) (g := g) (k := k + 1) (by omega) hx
  rw [nsub (by omega), Nat.add_sub_cancel] at this
  exact this
theorem m_inK' {x : Int32} {k : Nat} {g : zH} (hk : k < 2 ^ 30) (hx : ¬ inP x (k + 1)) : f_X9_in N x (nI 0) (nI k) g = some (nI 0, g) := by
  have := m_in0' (N := N) (g := g) (k := k + 1) (by omega) hx
  rw [nsub (by omega), Nat.add_sub_cancel] at this
  exact this
def toldN (d : Nat → Nat) (w : Nat) : Int32 := if w = 3 ∨ w = 4 then (if overN d = true then -nI 1 else nI (d w)) else nI (d w)
theorem m_told {w : Nat} (hw : w < 9) (h1 : d 1 < 100) (h2 : d 2 < 100) (h3 : d 3 < 100) : f_X9_told N m (nI w) (mset h m S B (dI d) E H J L U Z W) = some (toldN d w, (mset h m S B (dI d) E H J L U Z W)) := by
  unfold toldN
  by_cases c3 : w = 3
  · subst c3
    rw [if_pos (by omega)]
    by_cases ho : overN d = true
    · rw [if_pos ho]
      simp (disch := omega) only [f_X9_told, m_isOver, ho, b2_t', nlit, nltT, nltF, nleT, nleF, neqT, neqF, nadd, nmul, ↓reduceIte, Option.bind_some, onO_ms, gI_ms, gA_ms, pF_ms, ldI_ms, stI_ms, dI_app, updI, upN_eq, upN_ne, Nat.add_zero, Nat.zero_add]
    · have ho' : overN d = false := by simpa using ho
      rw [if_neg ho]
      simp (disch := omega) only [f_X9_told, m_isOver, ho', b2_f', nlit, nltT, nltF, nleT, nleF, neqT, neqF, nadd, nmul, ↓reduceIte, Option.bind_some, onO_ms, gI_ms, gA_ms, pF_ms, ldI_ms, stI_ms, dI_app, updI, upN_eq, upN_ne, Nat.add_zero, Nat.zero_add]
  · by_cases c4 : w = 4
    · subst c4
      rw [if_pos (by omega)]
      by_cases ho : overN d = true
      · rw [if_pos ho]
        simp (disch := omega) only [f_X9_told, m_isOver, ho, b2_t', nlit, nltT, nltF, nleT, nleF, neqT, neqF, nadd, nmul, ↓reduceIte, Option.bind_some, onO_ms, gI_ms, gA_ms, pF_ms, ldI_ms, stI_ms, dI_app, updI, upN_eq, upN_ne, Nat.add_zero, Nat.zero_add]
      · have ho' : overN d = false := by simpa using ho
        rw [if_neg ho]
        simp (disch := omega) only [f_X9_told, m_isOver, ho', b2_f', nlit, nltT, nltF, nleT, nleF, neqT, neqF, nadd, nmul, ↓reduceIte, Option.bind_some, onO_ms, gI_ms, gA_ms, pF_ms, ldI_ms, stI_ms, dI_app, updI, upN_eq, upN_ne, Nat.add_zero, Nat.zero_add]
    · rw [if_neg (by omega)]
      simp (disch := omega) only [f_X9_told, nlit, nltT, nltF, nleT, nleF, neqT, neqF, nadd, nmul, ↓reduceIte, Option.bind_some, onO_ms, gI_ms, gA_ms, pF_ms, ldI_ms, stI_ms, dI_app, updI, upN_eq, upN_ne, Nat.add_zero, Nat.zero_add]
theorem m_state_ok {w : Nat} (hw : w < 9) (h1 : d 1 < 100) (h2 : d 2 < 100) (h3 : d 3 < 100) : f_X9_state N m (nI w) (mset h m S B (dI d) E H J L U Z W) = some (toldN d w, mset h m (upd S 0 (nI 0)) B (dI d) E H J L U Z W) := by
  have n1 := m_inK (N := N) (g := mset h m (upd S 0 (nI 0)) B (dI d) E H J L U Z W) (k := 8) (by omega) ⟨w, hw, rfl⟩
  have n2 := m_told (N := N) (h := h) (m := m) (B := B) (E := E) (L := L) (U := U) (Z := Z) (W := W) (S := upd S 0 (nI 0)) (H := H) (J := J) hw h1 h2 h3
  simp (disch := omega) only [f_X9_state, f_X9_state_j21, f_X9_fails, f_X9_fails_j16, n1, n2, upS_eq, nlit, nltT, nltF, nleT, nleF, neqT, neqF, nadd, nmul, ↓reduceIte, Option.bind_some, onO_ms, gI_ms, gA_ms, pF_ms, ldI_ms, stI_ms, dI_app, updI, upN_eq, upN_ne, Nat.add_zero, Nat.zero_add]
theorem m_state_no {x : Int32} (hx : ¬ inP x 9) : f_X9_state N m x (mset h m S B (dI d) E H J L U Z W) = some (nI 0, mset h m (upd S 0 (nI 1)) B (dI d) E H J L U Z W) := by
  have n1 := m_inK' (N := N) (g := mset h m (upd S 0 (nI 0)) B (dI d) E H J L U Z W) (k := 8) (by omega) hx
  simp (disch := omega) only [f_X9_state, f_X9_state_j21, f_X9_fails, f_X9_fails_j16, n1, upS_eq, upS_upS, nlit, nltT, nltF, nleT, nleF, neqT, neqF, nadd, nmul, ↓reduceIte, Option.bind_some, onO_ms, gI_ms, gA_ms, pF_ms, ldI_ms, stI_ms, dI_app, updI, upN_eq, upN_ne, Nat.add_zero, Nat.zero_add]
theorem m_player_p {x y : Int32} (h1 : d 1 < 100) (hx : ¬ inP x (d 1)) : f_X9_player N m x y (mset h m S B (dI d) E H J L U Z W) = some (nI 0, mset h m (upd S 0 (nI 1)) B (dI d) E H J L U Z W) := by
  have n1 := m_noPlayer' (N := N) (h := h) (m := m) (B := B) (E := E) (L := L) (U := U) (Z := Z) (W := W) (S := upd S 0 (nI 0)) (H := H) (J := J) h1 (upS_eq _ _ _) hx
  simp (disch := omega) only [f_X9_player, n1, upS_upS, nlit, nltT, nltF, nleT, nleF, neqT, neqF, nadd, nmul, ↓reduceIte, Option.bind_some, onO_ms, gI_ms, gA_ms, pF_ms, ldI_ms, stI_ms, dI_app, updI, upN_eq, upN_ne, Nat.add_zero, Nat.zero_add]
theorem m_player_w {p : Nat} {y : Int32} (h1 : d 1 ≤ 5) (hp : p < d 1) (hy : ¬ inP y 3) : f_X9_player N m (nI p) y (mset h m S B (dI d) E H J L U Z W) = some (nI 0, mset h m (upd S 0 (nI 2)) B (dI d) E H J L U Z W) := by
  have n1 := m_noPlayer (N := N) (h := h) (m := m) (B := B) (E := E) (L := L) (U := U) (Z := Z) (W := W) (S := upd S 0 (nI 0)) (H := H) (J := J) (x := nI p) (by omega) (upS_eq _ _ _) ⟨p, hp, rfl⟩
  have n2 := m_inK' (N := N) (g := mset h m (upd S 0 (nI 0)) B (dI d) E H J L U Z W) (k := 2) (by omega) hy
  simp (disch := omega) only [f_X9_player, f_X9_player_j28, f_X9_fails, f_X9_fails_j16, n1, n2, upS_eq, upS_upS, nlit, nltT, nltF, nleT, nleF, neqT, neqF, nadd, nmul, ↓reduceIte, Option.bind_some, onO_ms, gI_ms, gA_ms, pF_ms, ldI_ms, stI_ms, dI_app, updI, upN_eq, upN_ne, Nat.add_zero, Nat.zero_add]
theorem m_player_ok {p w : Nat} (h1 : d 1 ≤ 5) (hp : p < d 1) (hw : w < 3) : f_X9_player N m (nI p) (nI w) (mset h m S B (dI d) E H J L U Z W) = some (nI (d (11 + 19 * p + w)), mset h m (upd S 0 (nI 0)) B (dI d) E H J L U Z W) := by
  have n1 := m_noPlayer (N := N) (h := h) (m := m) (B := B) (E := E) (L := L) (U := U) (Z := Z) (W := W) (S := upd S 0 (nI 0)) (H := H) (J := J) (x := nI p) (by omega) (upS_eq _ _ _) ⟨p, hp, rfl⟩
  have n2 := m_inK (N := N) (g := mset h m (upd S 0 (nI 0)) B (dI d) E H J L U Z W) (k := 2) (by omega) ⟨w, hw, rfl⟩
  simp (disch := omega) only [f_X9_player, f_X9_player_j28, f_X9_fails, f_X9_fails_j16, n1, n2, m_at, upS_eq, upS_upS, nlit, nltT, nltF, nleT, nleF, neqT, neqF, nadd, nmul, ↓reduceIte, Option.bind_some, onO_ms, gI_ms, gA_ms, pF_ms, ldI_ms, stI_ms, dI_app, updI, upN_eq, upN_ne, Nat.add_zero, Nat.zero_add]
theorem m_bid_b {x y : Int32} (h5 : d 5 ≤ 20) (hx : ¬ inP x (d 5)) : f_X9_bid N m x y (mset h m S B (dI d) E H J L U Z W) = some (nI 0, mset h m (upd S 0 (nI 1)) B (dI d) E H J L U Z W) := by
  have n1 := m_in0' (N := N) (g := mset h m (upd S 0 (nI 0)) B (dI d) E H J L U Z W) (show d 5 < 2 ^ 31 by omega) hx
  simp (disch := omega) only [f_X9_bid, f_X9_bid_j27, f_X9_fails, f_X9_fails_j16, n1, upS_eq, upS_upS, nlit, nltT, nltF, nleT, nleF, neqT, neqF, nadd, nmul, ↓reduceIte, Option.bind_some, onO_ms, gI_ms, gA_ms, pF_ms, ldI_ms, stI_ms, dI_app, updI, upN_eq, upN_ne, Nat.add_zero, Nat.zero_add]
theorem m_bid_w {b : Nat} {y : Int32} (h5 : d 5 ≤ 20) (hb : b < d 5) (hy : ¬ inP y 3) : f_X9_bid N m (nI b) y (mset h m S B (dI d) E H J L U Z W) = some (nI 0, mset h m (upd S 0 (nI 2)) B (dI d) E H J L U Z W) := by
  have n1 := m_in0 (N := N) (g := mset h m (upd S 0 (nI 0)) B (dI d) E H J L U Z W) (show d 5 < 2 ^ 31 by omega) ⟨b, hb, rfl⟩
  have n2 := m_inK' (N := N) (g := mset h m (upd S 0 (nI 0)) B (dI d) E H J L U Z W) (k := 2) (by omega) hy
  simp (disch := omega) only [f_X9_bid, f_X9_bid_j27, f_X9_bid_j49, f_X9_fails, f_X9_fails_j16, n1, n2, upS_eq, upS_upS, nlit, nltT, nltF, nleT, nleF, neqT, neqF, nadd, nmul, ↓reduceIte, Option.bind_some, onO_ms, gI_ms, gA_ms, pF_ms, ldI_ms, stI_ms, dI_app, updI, upN_eq, upN_ne, Nat.add_zero, Nat.zero_add]
theorem m_bid_ok {b w : Nat} (h5 : d 5 ≤ 20) (hb : b < d 5) (hw : w < 3) : f_X9_bid N m (nI b) (nI w) (mset h m S B (dI d) E H J L U Z W) = some (nI (d (118 + 3 * b + w)), mset h m (upd S 0 (nI 0)) B (dI d) E H J L U Z W) := by
  have n1 := m_in0 (N := N) (g := mset h m (upd S 0 (nI 0)) B (dI d) E H J L U Z W) (show d 5 < 2 ^ 31 by omega) ⟨b, hb, rfl⟩
  have n2 := m_inK (N := N) (g := mset h m (upd S 0 (nI 0)) B (dI d) E H J L U Z W) (k := 2) (by omega) ⟨w, hw, rfl⟩
  simp (disch := omega) only [f_X9_bid, f_X9_bid_j27, f_X9_bid_j49, f_X9_fails, f_X9_fails_j16, n1, n2, m_ofBid, upS_eq, upS_upS, nlit, nltT, nltF, nleT, nleF, neqT, neqF, nadd, nmul, ↓reduceIte, Option.bind_some, onO_ms, gI_ms, gA_ms, pF_ms, ldI_ms, stI_ms, dI_app, updI, upN_eq, upN_ne, Nat.add_zero, Nat.zero_add]
end M80

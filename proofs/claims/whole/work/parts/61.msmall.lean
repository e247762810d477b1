/-! ===== the model's small functions ===== -/
/-- numbers as ints -/
def dI (d : Nat → Nat) : Nat → Int32 := fun k => nI (d k)
def upN (d : Nat → Nat) (k x : Nat) : Nat → Nat := fun j => if j = k then x else d j
theorem dI_app (d : Nat → Nat) (k : Nat) : dI d k = nI (d k) := rfl
theorem updI (d : Nat → Nat) (k x : Nat) : upd (dI d) k (nI x) = dI (upN d k x) := by
  funext j
  show (if j = k then nI x else nI (d j)) = nI (if j = k then x else d j)
  split <;> rfl
theorem upN_eq (d : Nat → Nat) (k x : Nat) : upN d k x k = x := if_pos rfl
theorem upN_ne {d : Nat → Nat} {k x j : Nat} (h : j ≠ k) : upN d k x j = d j := if_neg h
theorem upN_upN (d : Nat → Nat) (k x y : Nat) : upN (upN d k x) k y = upN d k y := by
  funext j
  unfold upN
  split <;> rfl
theorem upS_eq (S : Nat → Int32) (k : Nat) (x : Int32) : upd S k x k = x := if_pos rfl
theorem upS_ne {S : Nat → Int32} {k j : Nat} {x : Int32} (h : j ≠ k) : upd S k x j = S j := if_neg h
theorem upS_upS (S : Nat → Int32) (k : Nat) (x y : Int32) : upd (upd S k x) k y = upd S k y := by
  funext j
  unfold upd
  split <;> rfl
theorem upS_same {S : Nat → Int32} {k : Nat} {x : Int32} (h : S k = x) : upd S k x = S := by
  funext j
  unfold upd
  split
  · next e => rw [e, h]
  · rfl
section M61
variable {h : zH} {m N : Nat} {S B E : Nat → Int32} {H : Nat → Nat → Int32} {J : Nat → Int64} {L U Z W : Nat → Int32} {d : Nat → Nat}
theorem m_at {p : Nat} {k : zH} : f_X9_at N (nI p) k = some (nI (11 + 19 * p), k) := by
  simp (disch := omega) only [f_X9_at, nlit, nlt, nle, neq, nadd, nmul, nsub, if_pos, if_neg, Option.bind_some, onO_ms, gI_ms, gA_ms, pF_ms, ldI_ms, stI_ms, dI_app, updI, upN_eq, upN_ne, Nat.add_zero, Nat.zero_add]
theorem m_cardsOf {p : Nat} (hp : p < 5) : f_X9_cardsOf N m (nI p) (mset h m S B (dI d) E H J L U Z W) = some (nI (d (11 + 19 * p + 1)), (mset h m S B (dI d) E H J L U Z W)) := by
  simp (disch := omega) only [f_X9_cardsOf, m_at, nlit, nlt, nle, neq, nadd, nmul, nsub, if_pos, if_neg, Option.bind_some, onO_ms, gI_ms, gA_ms, pF_ms, ldI_ms, stI_ms, dI_app, updI, upN_eq, upN_ne, Nat.add_zero, Nat.zero_add]
theorem m_elementOf {p c : Nat} (hp : p < 5) (hc : c < 8) : f_X9_elementOf N m (nI p) (nI c) (mset h m S B (dI d) E H J L U Z W) = some (nI (d (11 + 19 * p + 3 + 2 * c)), (mset h m S B (dI d) E H J L U Z W)) := by
  simp (disch := omega) only [f_X9_elementOf, m_at, nlit, nlt, nle, neq, nadd, nmul, nsub, if_pos, if_neg, Option.bind_some, onO_ms, gI_ms, gA_ms, pF_ms, ldI_ms, stI_ms, dI_app, updI, upN_eq, upN_ne, Nat.add_zero, Nat.zero_add]
theorem m_baseOf {p c : Nat} (hp : p < 5) (hc : c < 8) : f_X9_baseOf N m (nI p) (nI c) (mset h m S B (dI d) E H J L U Z W) = some (nI (d (11 + 19 * p + 3 + 2 * c + 1)), (mset h m S B (dI d) E H J L U Z W)) := by
  simp (disch := omega) only [f_X9_baseOf, m_at, nlit, nlt, nle, neq, nadd, nmul, nsub, if_pos, if_neg, Option.bind_some, onO_ms, gI_ms, gA_ms, pF_ms, ldI_ms, stI_ms, dI_app, updI, upN_eq, upN_ne, Nat.add_zero, Nat.zero_add]
theorem m_ofBid {b w : Nat} (hb : b < 20) (hw : w < 3) : f_X9_ofBid N m (nI b) (nI w) (mset h m S B (dI d) E H J L U Z W) = some (nI (d (118 + 3 * b + w)), (mset h m S B (dI d) E H J L U Z W)) := by
  simp (disch := omega) only [f_X9_ofBid, nlit, nlt, nle, neq, nadd, nmul, nsub, if_pos, if_neg, Option.bind_some, onO_ms, gI_ms, gA_ms, pF_ms, ldI_ms, stI_ms, dI_app, updI, upN_eq, upN_ne, Nat.add_zero, Nat.zero_add]
/-- no player, or no lot is left -/
def overN (d : Nat → Nat) : Bool := Nat.beq (d 1) 0 || Nat.ble (d 2) (d 3)
theorem overN_iff (d : Nat → Nat) : overN d = true ↔ (d 1 = 0 ∨ d 2 ≤ d 3) := by
  simp [overN]
theorem m_isOver (h1 : d 1 < 2 ^ 31) (h2 : d 2 < 2 ^ 31) (h3 : d 3 < 2 ^ 31) : f_X9_isOver N m (mset h m S B (dI d) E H J L U Z W) = some (b2 (overN d), (mset h m S B (dI d) E H J L U Z W)) := by
  have ho := overN_iff d
  by_cases c1 : d 1 = 0
  · rw [ho.mpr (Or.inl c1)]
    simp (disch := omega) only [f_X9_isOver, nlit, nlt, nle, neq, nadd, nmul, nsub, if_pos, if_neg, Option.bind_some, onO_ms, gI_ms, gA_ms, pF_ms, ldI_ms, stI_ms, dI_app, updI, upN_eq, upN_ne, Nat.add_zero, Nat.zero_add]
    rfl
  · by_cases c2 : d 2 ≤ d 3
    · rw [ho.mpr (Or.inr c2)]
      simp (disch := omega) only [f_X9_isOver, nlit, nlt, nle, neq, nadd, nmul, nsub, if_pos, if_neg, Option.bind_some, onO_ms, gI_ms, gA_ms, pF_ms, ldI_ms, stI_ms, dI_app, updI, upN_eq, upN_ne, Nat.add_zero, Nat.zero_add]
      rfl
    · have : overN d = false := by
        cases hb : overN d with
        | false => rfl
        | true => exact absurd (ho.mp hb) (by omega)
      rw [this]
      simp (disch := omega) only [f_X9_isOver, nlit, nlt, nle, neq, nadd, nmul, nsub, if_pos, if_neg, Option.bind_some, onO_ms, gI_ms, gA_ms, pF_ms, ldI_ms, stI_ms, dI_app, updI, upN_eq, upN_ne, Nat.add_zero, Nat.zero_add]
      rfl
theorem m_payPot {p x : Nat} (hp : p < 5) (hx : x ≤ d (11 + 19 * p)) : f_X9_payPot N m (nI p) (nI x) (mset h m S B (dI d) E H J L U Z W) = some (mset h m S B (dI (upN (upN d (11 + 19 * p) (d (11 + 19 * p) - x)) 6 (d 6 + x))) E H J L U Z W) := by
  simp (disch := omega) only [f_X9_payPot, m_at, nlit, nlt, nle, neq, nadd, nmul, nsub, if_pos, if_neg, Option.bind_some, onO_ms, gI_ms, gA_ms, pF_ms, ldI_ms, stI_ms, dI_app, updI, upN_eq, upN_ne, Nat.add_zero, Nat.zero_add]
theorem m_payInto {p x : Nat} (hp : p < 5) (hx : d (11 + 19 * p) + x ≤ 999999) : f_X9_payInto N m (nI p) (nI x) (mset h m S B (dI d) E H J L U Z W) = some (mset h m S B (dI (upN d (11 + 19 * p) (d (11 + 19 * p) + x))) E H J L U Z W) := by
  by_cases h9 : d (11 + 19 * p) + x = 999999
  · simp (disch := omega) only [f_X9_payInto, f_X9_min, m_at, nlit, nlt, nle, neq, nadd, nmul, nsub, if_pos, if_neg, Option.bind_some, onO_ms, gI_ms, gA_ms, pF_ms, ldI_ms, stI_ms, dI_app, updI, upN_eq, upN_ne, Nat.add_zero, Nat.zero_add, h9]
  · simp (disch := omega) only [f_X9_payInto, f_X9_min, m_at, nlit, nlt, nle, neq, nadd, nmul, nsub, if_pos, if_neg, Option.bind_some, onO_ms, gI_ms, gA_ms, pF_ms, ldI_ms, stI_ms, dI_app, updI, upN_eq, upN_ne, Nat.add_zero, Nat.zero_add]
theorem m_nextTurn (h1 : 0 < d 1) (h2 : d 1 < 100) (h4 : d 4 < 100) : f_X9_nextTurn N m (mset h m S B (dI d) E H J L U Z W) = some (mset h m S B (dI (upN d 4 ((d 4 + 1) % d 1))) E H J L U Z W) := by
  simp (disch := omega) only [f_X9_nextTurn, nlit, nlt, nle, neq, nadd, nmul, nsub, if_pos, if_neg, Option.bind_some, onO_ms, gI_ms, gA_ms, pF_ms, ldI_ms, stI_ms, dI_app, updI, upN_eq, upN_ne, Nat.add_zero, Nat.zero_add, nremI]
theorem m_nextLot : f_X9_nextLot N m (mset h m S B (dI d) E H J L U Z W) = some (mset h m S B (dI (upN (upN (upN (upN d 3 (d 3 + 1)) 5 0) 7 0) 6 0)) E H J L U Z W) := by
  simp (disch := omega) only [f_X9_nextLot, nlit, nlt, nle, neq, nadd, nmul, nsub, if_pos, if_neg, Option.bind_some, onO_ms, gI_ms, gA_ms, pF_ms, ldI_ms, stI_ms, dI_app, updI, upN_eq, upN_ne, Nat.add_zero, Nat.zero_add]
theorem m_fails1 (x : Int32) (h0 : S 0 = 0) (hx : x ≠ 0) : f_X9_fails N m 1 x (mset h m S B (dI d) E H J L U Z W) = some (1, mset h m (upd S 0 x) B (dI d) E H J L U Z W) := by
  have hx' : ¬ x = (0 : Int32) := hx
  unfold f_X9_fails
  rw [if_neg (by decide), gI_ms.1, Option.bind_some, if_pos h0, pF_ms.1, Option.bind_some, f_X9_fails_j16, gI_ms.1, Option.bind_some, upS_eq, if_neg hx']
theorem m_fails0 (x : Int32) (h0 : S 0 = 0) : f_X9_fails N m 0 x (mset h m S B (dI d) E H J L U Z W) = some (0, (mset h m S B (dI d) E H J L U Z W)) := by
  unfold f_X9_fails
  rw [if_pos rfl, f_X9_fails_j16, gI_ms.1, Option.bind_some, if_pos h0]
theorem m_thrown : f_X9_thrown N m (mset h m S B (dI d) E H J L U Z W) = some (S 0, (mset h m S B (dI d) E H J L U Z W)) := by
  simp only [f_X9_thrown, gI_ms, Option.bind_some]
theorem m_putCard {p e b : Nat} (hp : p < 5) (hc : d (11 + 19 * p + 1) < 8) : f_X9_putCard N (m + 2) (nI p) (nI e) (nI b) (mset h m S B (dI d) E H J L U Z W) = some (mset h m S B (dI (upN (upN (upN d (11 + 19 * p + 3 + 2 * d (11 + 19 * p + 1)) e) (11 + 19 * p + 3 + 2 * d (11 + 19 * p + 1) + 1) b) (11 + 19 * p + 1) (d (11 + 19 * p + 1) + 1))) E H J L U Z W) := by
  simp (disch := omega) only [f_X9_putCard, nlit, nlt, nle, neq, nadd, nmul, nsub, if_pos, if_neg, Option.bind_some, onO_ms, gI_ms, gA_ms, pF_ms, ldI_ms, stI_ms, dI_app, updI, upN_eq, upN_ne, Nat.add_zero, Nat.zero_add]
end M61

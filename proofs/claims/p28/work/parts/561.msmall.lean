/-- numbers as ints -/
def dI (d : Nat → Nat) : Nat → Int32 := fun k => nI (d k)
def upN (d : Nat → Nat) (k x : Nat) : Nat → Nat := fun j => if j = k then x else d j
theorem dI_app (d : Nat → Nat) (k : Nat) : dI d k = nI (d k) := rfl
theorem updI (d : Nat → Nat) (k x : Nat) : upd (dI d) k (nI x) = dI (upN d k x) := by
  funext j
  show (if j = k then nI x else nI (d j)) = nI (if j = k then x else d j)
  split <;> rfl
theorem upN_eq (d : Nat → Nat) (k x : Nat) : upN d k x k = x := if_pos rfl
theorem upN_ne {d : Nat → Nat} {k x j : Nat} (h : j ≠ k) : upN d k x j = d j := if_neg h
theorem upN_upN (d : Nat → Nat) (k x y : Nat) : upN (upN d k x) k y = upN d k y := by
  funext j
  unfold upN
  split <;> rfl
theorem upS_eq (S : Nat → Int32) (k : Nat) (x : Int32) : upd S k x k = x := if_pos rfl
theorem upS_ne {S : Nat → Int32} {k j : Nat} {x : Int32} (h : j ≠ k) : upd S k x j = S j := if_neg h
theorem upS_upS (S : Nat → Int32) (k : Nat) (x y : Int32) : upd (upd S k x) k y = upd S k y := by
  funext j
  unfold upd
  split <;> rfl
theorem upS_same {S : Nat → Int32} {k : Nat} {x : Int32} (h : S k = x) : upd S k x = S := by
  funext j
  unfold upd
  split
  · next e => rw [e, h]
  · rfl
section M61
variable {h : zH} {m N : Nat} {S B E : Nat → Int32} {H : Nat → Nat → Int32} {J : Nat → Int64} {L U Z W : Nat → Int32} {d : Nat → Nat}
/-- no player, or no lot is left -/
def overN (d : Nat → Nat) : Bool := Nat.beq (d 1) 0 || Nat.ble (d 2) (d 3)
theorem overN_iff (d : Nat → Nat) : overN d = true ↔ (d 1 = 0 ∨ d 2 ≤ d 3) := by
  simp [overN]
end M61

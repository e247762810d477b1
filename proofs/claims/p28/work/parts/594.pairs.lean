def Keep (b0 : Nat) (h h' : zH) : Prop := (∀ x, b0 + 395 ≤ x → x < b0 + 395 → hM h' x = hM h x) ∧ hS h ≤ hS h' ∧ hS h' ≤ hS h + 3 ∧ hN h ≤ hN h' ∧ hN h' ≤ hN h + 720
def KeepM (b0 : Nat) (h h' : zH) : Prop := (∀ x, x < b0 + 395 ∨ b0 + 413 ≤ x → hM h' x = hM h x) ∧ hS h' = hS h ∧ hN h' = hN h
section M94
variable {h h' : zH} {b0 K N q z : Nat} {ea : Int32} {d : Nat → Nat} {t : Nat → Nat} {hd : Nat → Nat → Nat} {hK : Nat → Nat} {ht : Nat → Nat → Nat} {B : Nat → Int32}
theorem Keep_rf : Keep b0 h h := ⟨fun _ _ _ => rfl, Nat.le_refl _, by omega, Nat.le_refl _, by omega⟩
theorem Keep_thr {k : Nat} : Keep b0 h (zthr k h) := ⟨fun _ _ _ => rfl, Nat.le_succ _, by show hS h + 1 ≤ _; omega, Nat.le_add_right _ _, by show hN h + 6 ≤ _; omega⟩
variable {F : zH → Option ((Int32 ⊕ Nat) × zH)} {G : zH → Option (Int32 × zH)} {code : Nat → Option Nat}
end M94

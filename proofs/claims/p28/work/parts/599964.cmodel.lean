def gArr (a : Nat) : Nat → Option Nat := fun i => if i < 8 then some (a + 1 + i) else none
def upG (c : Nat → Option zE) (len : Nat) (a : Nat) : Nat → Option zE := fun j => if j = len then some (.inl (5, 8, .inr (.inr (.inr (.inr (gArr a)))))) else if len < j ∧ j ≤ len + 8 then some (.inl (0, 1378, .inl (fun _ => nI 0))) else c j
section M99964
variable {GG : Nat → Option zE} {b0 len m N g : Nat} {c : Nat → Option zE}
end M99964

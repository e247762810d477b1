def hC (b0 : Nat) (c : Nat → Option zE) (len m : Nat) : zH := (b0 + len, m, fun q => if b0 ≤ q ∧ q < b0 + len then c (q - b0) else none)
section M9996
variable {b0 len m N : Nat} {c : Nat → Option zE}
end M9996

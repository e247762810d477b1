section M80
variable {h : zH} {m N : Nat} {S B D E : Nat → Int32} {H : Nat → Nat → Int32} {J J' : Nat → Int64} {L U Z W : Nat → Int32} {d : Nat → Nat}
def toldN (d : Nat → Nat) (w : Nat) : Int32 := if w = 3 ∨ w = 4 then (if overN d = true then -nI 1 else nI (d w)) else nI (d w)
end M80

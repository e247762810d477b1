def cSt (k : Nat) : Option Nat := if k = 1 then some 1 else none
def cPl (k : Nat) : Option Nat := if k = 2 then some 1 else if k = 1 then some 2 else none
def cCd (k : Nat) : Option Nat := if k = 2 then some 1 else if k = 3 then some 2 else if k = 1 then some 3 else none
def cBd (k : Nat) : Option Nat := if k = 3 then some 1 else if k = 1 then some 2 else none
def cRc (k : Nat) : Option Nat := if k = 2 then some 1 else none
def cPy (k : Nat) : Option Nat := if k = 0 then some 1 else if k = 3 then some 2 else none
def cPs (k : Nat) : Option Nat := if k = 0 then some 1 else none
def cGv (k : Nat) : Option Nat := if k = 2 then some 1 else if k = 1 then some 2 else if k = 0 then some 3 else none
def cDs (k : Nat) : Option Nat := if k = 2 then some 1 else if k = 3 then some 2 else none
theorem nne {x : Int32} {n k : Nat} (hx : ¬ inP x n) (hk : k < n) : (x = nI k) = False := eq_false fun e => hx ⟨k, hk, e⟩
section M95m
variable {h : zH} {m N : Nat} {S B E : Nat → Int32} {H : Nat → Nat → Int32} {J : Nat → Int64} {L U Z W : Nat → Int32} {d : Nat → Nat}
end M95m
section M95
variable {h h' : zH} {b0 K N q z : Nat} {ea : Int32} {d : Nat → Nat} {t : Nat → Nat} {hd : Nat → Nat → Nat} {hK : Nat → Nat} {ht : Nat → Nat → Nat} {B : Nat → Int32}
end M95

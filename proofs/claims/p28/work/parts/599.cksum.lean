def ck (v : Int64) (x : Int32) : Int64 := (31 : Int64) * v + x.toInt64
def ckF (f : Nat → Int32) : Nat → Nat → Int64 → Int64
  | 0, _, v => v
  | r + 1, k, v => ckF f r (k + 1) (ck v (f k))
def cardV (d : Nat → Nat) (K : Nat) (t : Nat → Nat) (p c w : Nat) : Int32 := if w = 0 then nI (d (11 + 19 * p + 3 + 2 * c)) else if w = 1 then nI (d (11 + 19 * p + 3 + 2 * c + 1)) else nI (priT d K t p c)
def cardsF (d : Nat → Nat) (K : Nat) (t : Nat → Nat) (p : Nat) : Nat → Nat → Int64 → Int64
  | 0, _, v => v
  | r + 1, c, v => cardsF d K t p r (c + 1) (ckF (cardV d K t p c) 3 0 v)
def playsF (d : Nat → Nat) (K : Nat) (t : Nat → Nat) : Nat → Nat → Int64 → Int64
  | 0, _, v => v
  | r + 1, p, v => playsF d K t r (p + 1) (cardsF d K t p (d (11 + 19 * p + 1)) 0 (ckF (fun w => nI (d (11 + 19 * p + w))) 3 0 v))
def bidsF (d : Nat → Nat) : Nat → Nat → Int64 → Int64
  | 0, _, v => v
  | r + 1, b, v => bidsF d r (b + 1) (ckF (fun w => nI (d (118 + 3 * b + w))) 3 0 v)
theorem bidsF_flat (d : Nat → Nat) : ∀ r b v, bidsF d r b v = ckF (fun k => nI (d (118 + k))) (3 * r) (3 * b) v
  | 0, _, _ => rfl
  | r + 1, b, v => by
    show bidsF d r (b + 1) _ = _
    rw [bidsF_flat d r (b + 1), show 3 * (r + 1) = 3 * r + 1 + 1 + 1 by omega]
    show _ = ckF _ (3 * r) (3 * b + 1 + 1 + 1) _
    rw [show 3 * (b + 1) = 3 * b + 1 + 1 + 1 by omega]
    rfl
def ckS (d : Nat → Nat) (K : Nat) (t : Nat → Nat) : Int64 := ck (bidsF d (d 5) 0 (playsF d K t (d 1) 0 (ckF (toldN d) 9 0 0))) (nI (numN (d 0) (prodF (bidE d) (d 5) 0 0)))
theorem FrA_rf {b0 : Nat} {h : zH} : FrA b0 h h := ⟨fun _ _ => simc_rf, rfl, rfl, fun _ _ _ => rfl⟩
theorem FrA_tr {b0 : Nat} {h h1 h2 : zH} (f1 : FrA b0 h h1) (f2 : FrA b0 h1 h2) : FrA b0 h h2 := ⟨fun q hq => simc_tr (f1.1 q hq) (f2.1 q hq), f2.2.1.trans f1.2.1, f2.2.2.1.trans f1.2.2.1, fun q a b => (f2.2.2.2 q a b).trans (f1.2.2.2 q a b)⟩
section M99m
variable {h : zH} {m N : Nat} {S B E : Nat → Int32} {H : Nat → Nat → Int32} {J : Nat → Int64} {L U Z W : Nat → Int32} {d : Nat → Nat} {K : Nat} {t : Nat → Nat}
end M99m

def updH (H : Nat → Nat → Int32) (k : Nat) (f : Nat → Int32) : Nat → Nat → Int32 := fun j => if j = k then f else H j
def mob (m : Nat) (S : Nat → Int32) : zE := .inr (9, [.int (S 0), .ref (m + 1), .int (S 2), .int (S 3), .int (S 4), .int (S 5), .int (S 6), .int (S 7), .ref (m + 2), .ref (m + 3), .ref (m + 4), .int (S 11), .int (S 12), .int (S 13), .int (S 14), .ref (m + 13), .ref (m + 14), .ref (m + 15), .ref (m + 16), .int (S 19), .int (S 20), .ref (m + 17)])
def mca (m : Nat) (B D E : Nat → Int32) (H : Nat → Nat → Int32) (J : Nat → Int64) (L U Z W : Nat → Int32) : Nat → Option zE
  | 0 => some (.inl (0, 700, .inl B))
  | 1 => some (.inl (0, 1378, .inl D))
  | 2 => some (.inl (0, 1378, .inl E))
  | 3 => some (.inl (5, 8, .inr (.inr (.inr (.inr (fun k => if k < 8 then some (m + 5 + k) else none))))))
  | 4 => some (.inl (0, 1378, .inl (H 0)))
  | 5 => some (.inl (0, 1378, .inl (H 1)))
  | 6 => some (.inl (0, 1378, .inl (H 2)))
  | 7 => some (.inl (0, 1378, .inl (H 3)))
  | 8 => some (.inl (0, 1378, .inl (H 4)))
  | 9 => some (.inl (0, 1378, .inl (H 5)))
  | 10 => some (.inl (0, 1378, .inl (H 6)))
  | 11 => some (.inl (0, 1378, .inl (H 7)))
  | 12 => some (.inl (1, 1200, .inr (.inl J)))
  | 13 => some (.inl (0, 120, .inl L))
  | 14 => some (.inl (0, 54322, .inl U))
  | 15 => some (.inl (2, 30720, .inl Z))
  | 16 => some (.inl (0, 120, .inl W))
  | _ => none
def mcl (m : Nat) (S : Nat → Int32) (R : Nat → Option zE) : Nat → Option zE
  | 0 => some (mob m S)
  | j + 1 => R j
/-- the heap with the model there, in this state -/
def mset (h : zH) (m : Nat) (S B D E : Nat → Int32) (H : Nat → Nat → Int32) (J : Nat → Int64) (L U Z W : Nat → Int32) : zH := rs h m 18 (mcl m S (mca m B D E H J L U Z W))
section MSET
variable {h : zH} {m : Nat} {S B D E : Nat → Int32} {H : Nat → Nat → Int32} {J : Nat → Int64} {L U Z W : Nat → Int32}
theorem ms_0 : hM (mset h m S B D E H J L U Z W) m = some (mob m S) := rs_in (h := h) (a := m) (len := 18) (j := 0) (c := mcl m S (mca m B D E H J L U Z W)) (by omega) rfl
theorem onO_ms {β : Type} {F : Option β} : onO 9 m (mset h m S B D E H J L U Z W) F = F := onO_of' ms_0
end MSET

section M9993m
variable {h : zH} {m N : Nat} {S B E : Nat → Int32} {H : Nat → Nat → Int32} {J : Nat → Int64} {L U Z W : Nat → Int32} {d : Nat → Nat}
theorem eI_m {o : Option Nat} {f : Nat} (hf : 0 < f) (hf8 : f ≤ 8) (ho : ∀ v, o = some v → v ≤ 8) : (eI o = nI f - nI 1) = (o = some (f - 1)) := by
  rw [nsub (show 1 ≤ f by omega)]
  cases o with
  | none =>
    have : (eI none = nI (f - 1)) = False := eq_false fun h9 => nI_nn (show f - 1 < 2 ^ 31 by omega) (by rw [← h9]; decide)
    rw [this]
    exact propext ⟨fun h => h.elim, fun h => by cases h⟩
  | some v =>
    have := ho v rfl
    show (nI v = nI (f - 1)) = _
    rw [neq (by omega) (by omega)]
    exact propext ⟨fun h => by rw [h], fun h => Option.some.inj h⟩
theorem fewR_8 {b : Nat → Bool} {r m v : Nat} (h : fewR b r m none = some v) : v ≤ 8 := by
  rcases (fewR_spec (b := b) r m none).1 v h with h1 | ⟨j, -, -, -, h4⟩
  · cases h1
  · rw [← h4]; exact popN_le j
end M9993m
section M9993
variable {h h' h1 : zH} {b0 K N q z : Nat} {ea : Int32} {d : Nat → Nat} {t : Nat → Nat} {hd : Nat → Nat → Nat} {hK : Nat → Nat} {ht : Nat → Nat → Nat} {B : Nat → Int32}
end M9993

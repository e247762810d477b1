def gArr (a : Nat) : Nat → Option Nat := fun i => if i < 8 then some (a + 1 + i) else none
def upG (c : Nat → Option zE) (len : Nat) (a : Nat) : Nat → Option zE := fun j => if j = len then some (.inl (5, 8, .inr (.inr (.inr (.inr (gArr a)))))) else if len < j ∧ j ≤ len + 8 then some (.inl (0, 1378, .inl (fun _ => nI 0))) else c j
section M99964
variable {b0 len m N g : Nat} {c : Nat → Option zE}
theorem hC_nG : nwG (hC b0 c len m) (nI 8) (nI 1378) = some (b0 + len, hC b0 (upG c len (b0 + len)) (len + 9) (m + 11032)) := by
  unfold nwG
  rw [if_pos ⟨⟨nI_nn (by omega), nI_nn (by omega)⟩, by rw [nI_clamp (by omega)]; omega, by rw [nI_clamp (by omega)]; omega⟩, nI_clamp (by omega), nI_clamp (by omega)]
  congr 2
  refine zH_ext (by show b0 + len + 1 + 8 = b0 + (len + 9); omega) rfl fun q => ?_
  show (if q = b0 + len then some (.inl (5, 8, .inr (.inr (.inr (.inr (fun i => if i < 8 then some (b0 + len + 1 + i) else none)))))) else if b0 + len < q ∧ q ≤ b0 + len + 8 then some (.inl (0, 1378, .inl (fun _ => 0))) else if b0 ≤ q ∧ q < b0 + len then c (q - b0) else none) = (if b0 ≤ q ∧ q < b0 + (len + 9) then (if q - b0 = len then some (.inl (5, 8, .inr (.inr (.inr (.inr (gArr (b0 + len))))))) else if len < q - b0 ∧ q - b0 ≤ len + 8 then some (.inl (0, 1378, .inl (fun _ => nI 0))) else c (q - b0)) else none)
  by_cases h1 : q = b0 + len
  · rw [if_pos h1, if_pos (by omega), if_pos (by omega)]
    rfl
  · rw [if_neg h1]
    by_cases h2 : b0 + len < q ∧ q ≤ b0 + len + 8
    · rw [if_pos h2, if_pos (by omega), if_neg (by omega), if_pos (by omega)]
      rfl
    · rw [if_neg h2]
      by_cases h3 : b0 ≤ q ∧ q < b0 + len
      · rw [if_pos h3, if_pos (by omega), if_neg (by omega), if_neg (by omega)]
      · rw [if_neg h3, if_neg (by omega)]
end M99964

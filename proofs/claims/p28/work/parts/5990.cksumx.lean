section M990
variable {h h' h1 : zH} {b0 K N q z : Nat} {ea : Int32} {d : Nat → Nat} {t : Nat → Nat} {hd : Nat → Nat → Nat} {hK : Nat → Nat} {ht : Nat → Nat → Nat} {B : Nat → Int32}
theorem x_bringBack {c : Nat} (hNN : 10 < N) (hD : GoodD (hd c)) (hH : HisAt b0 h (c + 1) hd hK ht) (hA : AucRaw b0 h (b0 + 46)) : ∃ h', f_X4_bringBack N (b0 + 84) (b0 + 46) h = some h' ∧ HisAt b0 h' c hd hK ht ∧ AucAt b0 h' (b0 + 46) (hd c) (hK c) (ht c) ∧ (∀ q, (q < b0 + 46 ∨ b0 + 81 ≤ q) → q ≠ b0 + 84 → hM h' q = hM h q) ∧ hS h' = hS h ∧ hN h' = hN h := by
  obtain ⟨o, ho, hq, h1, h2, h3, h4⟩ := hH
  have hi : (o + c) % 8 < 8 := Nat.mod_lt _ (by omega)
  have g2 : gI h (b0 + 84) 4 2 = some (nI (c + 1)) := gI_of' h1 rfl
  have g6 : pF h (b0 + 84) 4 2 (.int (nI c)) = some (hPut h (b0 + 84) (.inr (4, [.ref (b0 + 85), .int (nI o), .int (nI c)]))) := pF_of' h1 (by show 2 < 3; omega)
  have m1 : hM (hPut h (b0 + 84) (.inr (4, [.ref (b0 + 85), .int (nI o), .int (nI c)]))) (b0 + 84) = some (.inr (4, [.ref (b0 + 85), .int (nI o), .int (nI c)])) := by rw [hM_put, if_pos rfl]
  have fr : ∀ q, q ≠ b0 + 84 → hM (hPut h (b0 + 84) (.inr (4, [.ref (b0 + 85), .int (nI o), .int (nI c)]))) q = hM h q := fun q hq => by rw [hM_put, if_neg hq]
  have rr : ∀ rl k, RAd b0 h rl → k < 3 → rl + k ≠ b0 + 84 := by
    intro rl j hr hj
    obtain ⟨-, hr⟩ := hr
    rcases hr with ⟨i, h1, h2⟩ | ⟨i, h1, h2⟩ | h2 <;> omega
  generalize hg : hPut h (b0 + 84) (.inr (4, [.ref (b0 + 85), .int (nI o), .int (nI c)])) = g at *
  have hSg : hS g = hS h := by rw [← hg]; rfl
  have hNg : hN g = hN h := by rw [← hg]; rfl
  have a1 := AucAt_sim (h' := g) (h4 c (by omega)) (Nat.le_of_eq hSg.symm) (fun q _ _ => Or.inl (fr q (by omega))) (fun rl k hr hk => Or.inl (fr _ (rr rl k hr hk)))
  obtain ⟨k1, c1, c2, c3, c4, c5⟩ := AucAt_copy (N := N) hNN (AAd_now (b0 := b0)) (AAd_ring (b0 := b0) hi) (by omega) (AucRaw_sim hA (fun q _ _ => Or.inl (fr q (by omega)))) hD a1
  have g1 : gA g (b0 + 84) 4 0 = some (b0 + 85) := gA_of' m1 rfl
  have g7 : gI g (b0 + 84) 4 2 = some (nI c) := gI_of' m1 rfl
  have g3 := x_placeOf (N := N) ho (show c ≤ 8 by omega) m1
  have g8 : hM g (b0 + 85) = some (refE (ringF b0) 8) := (fr _ (by omega)).trans h2
  have g4 : ldQ g (b0 + 85) (nI ((o + c) % 8)) = some (b0 + 86 + 38 * ((o + c) % 8)) := by
    simp [ldQ, g8, refE, ringF, nI_nn (show (o + c) % 8 < 2 ^ 31 by omega), nI_clamp (show (o + c) % 8 < 2 ^ 31 by omega), hi]
  have o4 : ∀ F : Option (Int32 × zH), onO 4 (b0 + 84) g F = F := fun F => onO_of' m1
  have o5 : ∀ F : Option zH, onO 0 (b0 + 46) g F = F := fun F => onO_any (AucRaw_sim hA (fun q _ _ => Or.inl (fr q (by omega))))
  refine ⟨k1, ?_, ?_, c2, fun q h5 h6 => (c3 q (by omega)).trans (fr q h6), c4.trans hSg, c5.trans hNg⟩
  · simp (disch := omega) only [f_X4_bringBack, g2, g6, g1, g7, g3, g4, o4, o5, c1, nlit, nleF, nsub, Nat.add_sub_cancel, ↓reduceIte, Option.bind_some]
  · refine ⟨o, ho, by omega, (c3 _ (by omega)).trans m1, (c3 _ (by omega)).trans g8, fun i hi2 => AucRaw_sim (h3 i hi2) (fun q _ _ => Or.inl ((c3 q (by omega)).trans (fr q (by omega)))), fun k hk => ?_⟩
    refine AucAt_sim (h4 k (by omega)) (by omega) (fun q _ _ => Or.inl ((c3 q (by omega)).trans (fr q (by omega)))) (fun rl j hr hj => Or.inl ?_)
    have e1 := RAd_out hr (AAd_now (b0 := b0))
    exact (c3 _ (by omega)).trans (fr _ (rr rl j hr hj))
end M990

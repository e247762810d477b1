theorem as_as {h : zH} {a g rl rl' : Nat} {T R T' R' : Nat → Int32} {X X' : Nat → Nat → Int32} {P Q P' Q' : Nat → Int32} : aset (aset h a g rl T R X P Q) a g rl' T' R' X' P' Q' = aset h a g rl' T' R' X' P' Q' := by
  refine rs_rs fun j hj hc => ?_
  unfold acl at hc ⊢
  split at hc
  · cases hc
  · split at hc
    · cases hc
    · split at hc
      · cases hc
      · split at hc
        · cases hc
        · split at hc
          · cases hc
          · rename_i h1 h2 h3 h4 h5
            rw [if_neg h1, if_neg h2, if_neg h3, if_neg h4, if_neg h5]
theorem AAd_apart {b0 a b : Nat} (ha : AAd b0 a) (hb : AAd b0 b) (hab : a ≠ b) : a + 35 ≤ b ∨ b + 35 ≤ a := by
  rcases ha with ⟨i, h1, h2⟩ | ⟨i, h1, h2⟩ <;> rcases hb with ⟨j, h3, h4⟩ | ⟨j, h3, h4⟩ <;> omega
theorem nxor8 {a : Nat} (ha : a < 32) : 0 ≤ (nI a ^^^ nI 8) := by
  have h : ∀ a : Fin 32, 0 ≤ (nI a.val ^^^ nI 8) := by decide
  exact h ⟨a, ha⟩
def refE (v : Nat → Option Nat) (n : Nat) : zE := .inl (4, n, .inr (.inr (.inr (.inr v))))
def ringF (b0 : Nat) : Nat → Option Nat := fun k => if k < 8 then some (b0 + 86 + 38 * k) else none
def HisAt (b0 : Nat) (h : zH) (q : Nat) (hd : Nat → Nat → Nat) (hK : Nat → Nat) (ht : Nat → Nat → Nat) : Prop := ∃ o, o < 8 ∧ q ≤ 8 ∧ hM h (b0 + 84) = some (.inr (4, [.ref (b0 + 85), .int (nI o), .int (nI q)])) ∧ hM h (b0 + 85) = some (refE (ringF b0) 8) ∧ (∀ i, i < 8 → AucRaw b0 h (b0 + 86 + 38 * i)) ∧ ∀ k, k < q → AucAt b0 h (b0 + 86 + 38 * ((o + k) % 8)) (hd k) (hK k) (ht k)
def remF {α : Type} (f : Nat → α) (x : α) (q : Nat) : Nat → α := fun k => if k = q - forg q then x else f (k + forg q)
section M90
variable {h h' : zH} {a b b0 K N q : Nat} {d : Nat → Nat} {t : Nat → Nat} {hd : Nat → Nat → Nat} {hK : Nat → Nat} {ht : Nat → Nat → Nat}
theorem AucAt_copy (hNN : 10 < N) (ha : AAd b0 a) (hb : AAd b0 b) (hab : a ≠ b) (hA : AucRaw b0 h a) (hD : GoodD d) (hB : AucAt b0 h b d K t) : ∃ h', f_X0_copyFrom N a b h = some h' ∧ AucAt b0 h' a d K t ∧ (∀ q, q < a ∨ a + 35 ≤ q → hM h' q = hM h q) ∧ hS h' = hS h ∧ hN h' = hN h := by
  obtain ⟨rl, T, R, X, P, Q, ea, -⟩ := hA
  obtain ⟨rl', T', R', X', P', Q', eb, hR, hO, hU, hV⟩ := hB
  obtain ⟨T2, R2, X2, P2, Q2, c1, c2⟩ := x_copyFrom (N := N) (a := a) (g := b0 + 1) (rl := rl) (T := T) (R := R) (X := X) (P := P) (Q := Q) hNN eb (AAd_apart ha hb hab) hO
  rw [ea] at c1
  refine ⟨_, c1, ⟨rl', T2, R2, X2, P2, Q2, as_as, AEq_AucR c2 hD hR, AEq_RowOK c2 hO, RuleAt_as hU (RAd_out hV ha), RAd_mono hV (Nat.le_of_eq (hS_as _ _ _ _ _ _ _ _ _).symm)⟩, fun q hq => rs_out hq, rfl, rfl⟩
theorem AAd_now : AAd b0 (b0 + 46) := Or.inl ⟨1, by omega, by omega⟩
theorem AAd_target : AAd b0 (b0 + 8) := Or.inl ⟨0, by omega, by omega⟩
theorem AAd_ring {i : Nat} (hi : i < 8) : AAd b0 (b0 + 86 + 38 * i) := Or.inr ⟨i, hi, rfl⟩
theorem onO_any {β : Type} {F : Option β} (hA : AucRaw b0 h a) : onO 0 a h F = F := by
  obtain ⟨rl, T, R, X, P, Q, ea, -⟩ := hA
  rw [← ea]
  exact onO_a
theorem x_placeOf {o k q : Nat} (ho : o < 8) (hk : k ≤ 8) (hm : hM h (b0 + 84) = some (.inr (4, [.ref (b0 + 85), .int (nI o), .int (nI q)]))) : f_X4_placeOf N (b0 + 84) (nI k) h = some (nI ((o + k) % 8), h) := by
  have g1 : gI h (b0 + 84) 4 1 = some (nI o) := gI_of' hm rfl
  have e1 : zremI (nI (o + k)) (nI 8) = some (nI ((o + k) % 8)) := nremI (by omega) (by omega) (by omega)
  have e2 : (0 ≤ (nI (o + k) ^^^ nI 8)) = True := eq_true (nxor8 (by omega))
  have e3 : ((nI 0) ≤ (nI (o + k) ^^^ nI 8)) = True := e2
  simp only [f_X4_placeOf, f_J9_floorMod_7cf53, g1, nlit, nadd, e1, e2, e3, ↓reduceIte, Option.bind_some]
/-- the copy into the ring, and the count -/
theorem x_rem_tail (hNN : 10 < N) {c : Nat} (hc : c < 8) (hD : GoodD d) (hH : HisAt b0 h c hd hK ht) (hA : AucAt b0 h (b0 + 46) d K t) : ∃ h', f_X4_remember_j24 N (b0 + 84) (b0 + 46) h = some h' ∧ HisAt b0 h' (c + 1) (fun k => if k = c then d else hd k) (fun k => if k = c then K else hK k) (fun k => if k = c then t else ht k) ∧ (∀ q, q < b0 + 84 ∨ b0 + 390 ≤ q → hM h' q = hM h q) ∧ (∀ q, b0 + 84 < q → (∃ i, i < 8 ∧ b0 + 121 + 38 * i ≤ q ∧ q < b0 + 124 + 38 * i) → hM h' q = hM h q) ∧ hS h' = hS h ∧ hN h' = hN h := by
  obtain ⟨o, ho, -, h1, h2, h3, h4⟩ := hH
  have hi : (o + c) % 8 < 8 := Nat.mod_lt _ (by omega)
  obtain ⟨k1, c1, c2, c3, c4, c5⟩ := AucAt_copy (N := N) hNN (AAd_ring (b0 := b0) hi) AAd_now (by omega) (h3 _ hi) hD hA
  have g1 : gA h (b0 + 84) 4 0 = some (b0 + 85) := gA_of' h1 rfl
  have g2 : gI h (b0 + 84) 4 2 = some (nI c) := gI_of' h1 rfl
  have g3 := x_placeOf (N := N) ho (show c ≤ 8 by omega) h1
  have g4 : ldQ h (b0 + 85) (nI ((o + c) % 8)) = some (b0 + 86 + 38 * ((o + c) % 8)) := by
    simp [ldQ, h2, refE, ringF, nI_nn (show (o + c) % 8 < 2 ^ 31 by omega), nI_clamp (show (o + c) % 8 < 2 ^ 31 by omega), hi]
  have o4 : ∀ F : Option (Int32 × zH), onO 4 (b0 + 84) h F = F := fun F => onO_of' h1
  have o5 : ∀ F : Option zH, onO 0 (b0 + 86 + 38 * ((o + c) % 8)) h F = F := fun F => onO_any (h3 _ hi)
  have m1 : hM k1 (b0 + 84) = some (.inr (4, [.ref (b0 + 85), .int (nI o), .int (nI c)])) := (c3 _ (by omega)).trans h1
  have g5 : gI k1 (b0 + 84) 4 2 = some (nI c) := gI_of' m1 rfl
  have g6 : pF k1 (b0 + 84) 4 2 (.int (nI (c + 1))) = some (hPut k1 (b0 + 84) (.inr (4, [.ref (b0 + 85), .int (nI o), .int (nI (c + 1))]))) := pF_of' m1 (by show 2 < 3; omega)
  refine ⟨hPut k1 (b0 + 84) (.inr (4, [.ref (b0 + 85), .int (nI o), .int (nI (c + 1))])), ?_, ?_, ?_, ?_, c4, c5⟩
  · simp only [f_X4_remember_j24, g1, g2, g3, g4, o4, o5, c1, g5, g6, nlit, nadd, Option.bind_some]
  · have fr : ∀ q, q ≠ b0 + 84 → hM (hPut k1 (b0 + 84) (.inr (4, [.ref (b0 + 85), .int (nI o), .int (nI (c + 1))]))) q = hM k1 q := fun q hq => by rw [hM_put, if_neg hq]
    refine ⟨o, ho, by omega, by rw [hM_put, if_pos rfl], (fr _ (by omega)).trans ((c3 _ (by omega)).trans h2), fun i hi2 => ?_, fun k hk => ?_⟩
    · by_cases hii : i = (o + c) % 8
      · rw [hii]
        exact AucRaw_sim (AucAt_raw c2) (fun q _ _ => Or.inl (fr q (by omega)))
      · exact AucRaw_sim (h3 i hi2) (fun q _ _ => Or.inl ((fr q (by omega)).trans (c3 q (by omega))))
    · by_cases hkc : k = c
      · subst hkc
        simp only [if_pos rfl]
        refine AucAt_sim c2 (Nat.le_refl _) (fun q _ _ => Or.inl (fr q (by omega))) (fun rl j hr hj => Or.inl (fr _ ?_))
        have := RAd_out hr (AAd_now (b0 := b0))
        obtain ⟨-, hr⟩ := hr
        rcases hr with ⟨i, h1, h2⟩ | ⟨i, h1, h2⟩ | h2 <;> omega
      · simp only [if_neg hkc]
        refine AucAt_sim (h4 k (by omega)) (Nat.le_of_eq c4.symm) (fun q _ _ => Or.inl ((fr q (by omega)).trans (c3 q (by omega)))) (fun rl j hr hj => Or.inl ?_)
        have e1 := RAd_out hr (AAd_ring (b0 := b0) hi)
        obtain ⟨-, hr⟩ := hr
        exact (fr _ (by rcases hr with ⟨i, h1, h2⟩ | ⟨i, h1, h2⟩ | h2 <;> omega)).trans (c3 _ (by omega))
  · intro q hq
    rw [hM_put, if_neg (by omega)]
    exact c3 q (by omega)
  · intro q hq hr
    obtain ⟨i, i1, i2, i3⟩ := hr
    rw [hM_put, if_neg (by omega)]
    exact c3 q (by omega)
theorem x_remember (hNN : 10 < N) (hD : GoodD d) (hH : HisAt b0 h q hd hK ht) (hA : AucAt b0 h (b0 + 46) d K t) : ∃ h', f_X4_remember N (b0 + 84) (b0 + 46) h = some h' ∧ HisAt b0 h' (q - forg q + 1) (remF hd d q) (remF hK K q) (remF ht t q) ∧ (∀ q, q < b0 + 84 ∨ b0 + 390 ≤ q → hM h' q = hM h q) ∧ (∀ q, b0 + 84 < q → (∃ i, i < 8 ∧ b0 + 121 + 38 * i ≤ q ∧ q < b0 + 124 + 38 * i) → hM h' q = hM h q) ∧ hS h' = hS h ∧ hN h' = hN h := by
  obtain ⟨o, ho, hq, h1, h2, h3, h4⟩ := id hH
  have g2 : gI h (b0 + 84) 4 2 = some (nI q) := gI_of' h1 rfl
  by_cases h8 : q = 8
  · have f8 : forg q = 1 := by unfold forg; rw [if_pos h8]
    have o4 : ∀ F : Option (Int32 × zH), onO 4 (b0 + 84) h F = F := fun F => onO_of' h1
    have g3 := x_placeOf (N := N) ho (show 1 ≤ 8 by omega) h1
    have g6 : pF h (b0 + 84) 4 1 (.int (nI ((o + 1) % 8))) = some (hPut h (b0 + 84) (.inr (4, [.ref (b0 + 85), .int (nI ((o + 1) % 8)), .int (nI q)]))) := pF_of' h1 (by show 1 < 3; omega)
    have m1 : hM (hPut h (b0 + 84) (.inr (4, [.ref (b0 + 85), .int (nI ((o + 1) % 8)), .int (nI q)]))) (b0 + 84) = some (.inr (4, [.ref (b0 + 85), .int (nI ((o + 1) % 8)), .int (nI q)])) := by rw [hM_put, if_pos rfl]
    have g7 : pF (hPut h (b0 + 84) (.inr (4, [.ref (b0 + 85), .int (nI ((o + 1) % 8)), .int (nI q)]))) (b0 + 84) 4 2 (.int (nI 7)) = some (hPut h (b0 + 84) (.inr (4, [.ref (b0 + 85), .int (nI ((o + 1) % 8)), .int (nI 7)]))) := by
      rw [pF_of' m1 (by show 2 < 3; omega), put_put]
      rfl
    have fr : ∀ q, q ≠ b0 + 84 → hM (hPut h (b0 + 84) (.inr (4, [.ref (b0 + 85), .int (nI ((o + 1) % 8)), .int (nI 7)]))) q = hM h q := fun q hq => by rw [hM_put, if_neg hq]
    have rr : ∀ rl k, RAd b0 h rl → k < 3 → simc h (hPut h (b0 + 84) (.inr (4, [.ref (b0 + 85), .int (nI ((o + 1) % 8)), .int (nI 7)]))) (rl + k) := by
      intro rl j hr hj
      obtain ⟨-, hr⟩ := hr
      exact Or.inl (fr _ (by rcases hr with ⟨i, h1, h2⟩ | ⟨i, h1, h2⟩ | h2 <;> omega))
    obtain ⟨h', c1, c2, c3, c4, c5, c6⟩ := x_rem_tail (N := N) (c := 7) (h := hPut h (b0 + 84) (.inr (4, [.ref (b0 + 85), .int (nI ((o + 1) % 8)), .int (nI 7)]))) (hd := fun k => hd (k + 1)) (hK := fun k => hK (k + 1)) (ht := fun k => ht (k + 1)) hNN (by omega) hD ⟨(o + 1) % 8, Nat.mod_lt _ (by omega), by omega, by rw [hM_put, if_pos rfl], (fr _ (by omega)).trans h2, fun i hi => AucRaw_sim (h3 i hi) (fun q _ _ => Or.inl (fr q (by omega))), fun k hk => by
      have := h4 (k + 1) (by omega)
      rw [show (o + (k + 1)) % 8 = ((o + 1) % 8 + k) % 8 by omega] at this
      exact AucAt_sim this (Nat.le_refl _) (fun q _ _ => Or.inl (fr q (by omega))) rr⟩ (AucAt_sim hA (Nat.le_refl _) (fun q _ _ => Or.inl (fr q (by omega))) rr)
    refine ⟨h', ?_, ?_, ?_, ?_, c5, c6⟩
    · rw [← c1]
      subst h8
      simp (disch := omega) only [f_X4_remember, g2, g3, o4, g6, g7, nlit, nltF, ↓reduceIte, Option.bind_some]
    · unfold remF
      rw [f8, h8]
      exact c2
    · intro q hq
      rw [c3 q hq, fr q (by omega)]
    · intro q hq hr
      rw [c4 q hq hr, fr q (by omega)]
  · have f8 : forg q = 0 := by unfold forg; rw [if_neg h8]
    obtain ⟨h', c1, c2, c3, c4, c5, c6⟩ := x_rem_tail (N := N) hNN (show q < 8 by omega) hD hH hA
    refine ⟨h', ?_, ?_, c3, c4, c5, c6⟩
    · rw [← c1]
      simp (disch := omega) only [f_X4_remember, g2, nlit, nltT, ↓reduceIte, Option.bind_some]
    · unfold remF
      rw [f8]
      exact c2
end M90

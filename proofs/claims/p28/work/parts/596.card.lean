section M96
variable {h h' h1 : zH} {b0 K N q z : Nat} {ea : Int32} {d : Nat → Nat} {t : Nat → Nat} {hd : Nat → Nat → Nat} {hK : Nat → Nat} {ht : Nat → Nat → Nat} {B : Nat → Int32}
theorem RAd_rem {rl k : Nat} (r3 : ∀ q, q < b0 + 84 ∨ b0 + 390 ≤ q → hM h1 q = hM h q) (r4 : ∀ q, b0 + 84 < q → (∃ i, i < 8 ∧ b0 + 121 + 38 * i ≤ q ∧ q < b0 + 124 + 38 * i) → hM h1 q = hM h q) (hr : RAd b0 h rl) (hk : k < 3) : hM h1 (rl + k) = hM h (rl + k) := by
  obtain ⟨-, hr⟩ := hr
  rcases hr with ⟨i, i1, i2⟩ | ⟨i, i1, i2⟩ | i2
  · exact r3 _ (by omega)
  · exact r4 _ (by omega) ⟨i, i1, by omega, by omega⟩
  · exact r3 _ (by omega)
theorem RAd_now {rl k : Nat} (hr : RAd b0 h rl) (hk : k < 3) : rl + k < b0 + 46 ∨ b0 + 81 ≤ rl + k := by
  have := RAd_out hr (AAd_now (b0 := b0))
  omega
/-- the class has touched its auction in play only -/
theorem WC_fra {d' : Nat → Nat} (hW : WC b0 h (d, K, t, (q, hd, hK, ht), ea, z, B)) (hf : FrA b0 h h') (hA : AucAt b0 h' (b0 + 46) d' K t) (hD : GoodD d') (hC : CodeR d' K t) : WC b0 h' (d', K, t, (q, hd, hK, ht), ea, z, B) := by
  obtain ⟨h1, h2, h3, h4⟩ := hW
  have hS1 : hS h ≤ hS h' := Nat.le_of_eq hf.2.1.symm
  exact ⟨BaseAt_sim h1 hS1 (fun x hx => hf.1 x (by omega)), ⟨hA, hD, hC⟩, HisAt_sim h3 hS1 (fun x _ _ => hf.1 x (by omega)) (fun rl k hr hk => hf.1 _ (RAd_now hr hk)), h4⟩
theorem Keep_fra (hf : FrA b0 h h') : Keep b0 h h' := ⟨hf.2.2.2, Nat.le_of_eq hf.2.1.symm, by rw [hf.2.1]; omega, Nat.le_of_eq hf.2.2.1.symm, by rw [hf.2.2.1]; omega⟩
/-- the class has remembered -/
theorem WC_rem (hW : WC b0 h (d, K, t, (q, hd, hK, ht), ea, z, B)) (hH1 : HisAt b0 h1 (q - forg q + 1) (remF hd d q) (remF hK K q) (remF ht t q)) (r3 : ∀ q, q < b0 + 84 ∨ b0 + 390 ≤ q → hM h1 q = hM h q) (r4 : ∀ q, b0 + 84 < q → (∃ i, i < 8 ∧ b0 + 121 + 38 * i ≤ q ∧ q < b0 + 124 + 38 * i) → hM h1 q = hM h q) (r5 : hS h1 = hS h) : WC b0 h1 (d, K, t, (q - forg q + 1, remF hd d q, remF hK K q, remF ht t q), ea, z, B) := by
  obtain ⟨w1, ⟨w2, w3, w4⟩, w5, w6⟩ := hW
  have hS1 : hS h ≤ hS h1 := Nat.le_of_eq r5.symm
  refine ⟨BaseAt_sim w1 hS1 (fun x hx => Or.inl (r3 x (by omega))), ⟨AucAt_sim w2 hS1 (fun x _ _ => Or.inl (r3 x (by omega))) (fun rl k hr hk => Or.inl (RAd_rem r3 r4 hr hk)), w3, w4⟩, hH1, fun k hk => ?_⟩
  unfold remF
  by_cases hkq : k = q - forg q
  · rw [if_pos hkq, if_pos hkq, if_pos hkq]
    exact ⟨w3, w4⟩
  · rw [if_neg hkq, if_neg hkq, if_neg hkq]
    have hf : forg q = 0 ∨ forg q = 1 := by
      unfold forg
      split
      · exact Or.inr rfl
      · exact Or.inl rfl
    have hf8 : forg q = 1 → q = 8 := by
      unfold forg
      split
      · exact fun _ => by assumption
      · intro h9; omega
    exact w6 (k + forg q) (by omega)
theorem Keep_rem (r3 : ∀ q, q < b0 + 84 ∨ b0 + 390 ≤ q → hM h1 q = hM h q) (r5 : hS h1 = hS h) (r6 : hN h1 = hN h) : Keep b0 h h1 := ⟨fun x _ _ => r3 x (by omega), Nat.le_of_eq r5.symm, by rw [r5]; omega, Nat.le_of_eq r6.symm, by rw [r6]; omega⟩
theorem Keep_rem_fra (k1 : Keep b0 h h1) (r5 : hS h1 = hS h) (r6 : hN h1 = hN h) (hf : FrA b0 h1 h') : Keep b0 h h' := ⟨fun x a b => (hf.2.2.2 x a b).trans (k1.1 x a b), by rw [hf.2.1, r5]; omega, by rw [hf.2.1, r5]; omega, by rw [hf.2.2.1, r6]; omega, by rw [hf.2.2.1, r6]; omega⟩
variable {F : zH → Option ((Int32 ⊕ Nat) × zH)} {G : zH → Option (Int32 × zH)} {code : Nat → Option Nat}
end M96

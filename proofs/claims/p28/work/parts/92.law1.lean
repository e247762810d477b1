/-! ===== the law's rounds: after a case ===== -/
section M92
variable {M M' W ow : Nat → Prop} {h h' : zH} {N n c m a pu wo ha b0 rn bf K D q : Nat} {d t : Nat → Nat} {κ : Nat → Nat} {g : Nat → Option Nat} {hd : Nat → Nat → Nat} {hK : Nat → Nat} {ht : Nat → Nat → Nat} {y : Yr}
theorem ldO7_of {i : Nat} (hm : hM h bf = some (rfA 9 7 g)) (hi : i < 9) : ldO h bf (nI i) = some (g i) := by
  unfold ldO
  rw [hm]
  dsimp only
  rw [nI_clamp (by omega), if_pos ⟨rfl, nI_nn (by omega), hi⟩]
theorem stN7_of {i : Nat} (hm : hM h bf = some (rfA 9 7 g)) (hi : i < 9) : stN h bf (nI i) = some (hPut h bf (rfA 9 7 (va_up g i none))) := by
  unfold stN
  rw [hm]
  dsimp only
  rw [nI_clamp (by omega), if_pos ⟨rfl, nI_nn (by omega), hi⟩]
theorem stQ7_of {i x : Nat} {fs : List Value} (hm : hM h bf = some (rfA 9 7 g)) (hx : hM h x = some (.inr (12, fs))) (hi : i < 9) : stQ h bf (nI i) x = some (hPut h bf (rfA 9 7 (va_up g i (some x)))) := by
  unfold stQ
  rw [hm, hx]
  dsimp only
  rw [nI_clamp (by omega), if_pos ⟨by omega, rfl, nI_nn (by omega), hi⟩]
theorem ldQ7_of {i x : Nat} (hm : hM h bf = some (rfA 9 7 g)) (hi : i < 9) (hg : g i = some x) : ldQ h bf (nI i) = some x := ldQ_of' hm (by omega) hi (by omega) hg
/-- the rows move on -/
theorem law_shift {P : Option ((Int32 ⊕ Nat) × zH) → Prop} {L : Nat} {xs : Nat → Int32} {z1 z2 z8 z9 : Int32} {za : Nat} {k1 : zH → Option ((Int32 ⊕ Nat) × zH)} : ∀ (r fu : Nat) (g : Nat → Option Nat) (h : zH), r < 9 → r < fu → hM h bf = some (rfA 9 7 g) → (∀ j, j < r → ∀ x, g j = some x → x ≠ bf ∧ ∃ fs, hM h x = some (.inr (12, fs))) → (∀ g', (∀ j, 1 ≤ j → j ≤ r → g' j = g (j - 1)) → (∀ j, (j = 0 ∨ r < j) → g' j = g j) → P (k1 (hPut h bf (rfA 9 7 g')))) → P (f_L_law_l964 N κ L xs z1 z2 b0 rn a bf z8 z9 za k1 fu (nI r) h) := by
  intro r
  induction r with
  | zero =>
    intro fu g h hr hf hm hx hP
    obtain ⟨f, rfl⟩ : ∃ f, fu = f + 1 := ⟨fu - 1, by omega⟩
    rw [f_L_law_l964]
    refine ifPT (show nI 0 ≤ nI 0 from of_eq_true (nleT (by omega) (Nat.le_refl _))) ?_
    have := hP g (fun j j1 j2 => absurd j1 (by omega)) (fun j _ => rfl)
    rw [put_self hm] at this
    exact this
  | succ r ih =>
    intro fu g h hr hf hm hx hP
    obtain ⟨f, rfl⟩ : ∃ f, fu = f + 1 := ⟨fu - 1, by omega⟩
    rw [f_L_law_l964]
    refine ifPF (show ¬ nI (r + 1) ≤ nI 0 from of_eq_false (nleF (by omega) (by omega))) ?_
    rw [show nI (r + 1) - (1 : Int32) = nI r from (nsub (a := r + 1) (b := 1) (by omega))]
    refine bindP (ldO7_of hm (show r < 9 by omega)) ?_
    have tail : ∀ x : Option Nat, x = g r → (∀ w, x = some w → w ≠ bf ∧ ∃ fs, hM h w = some (.inr (12, fs))) → P (f_L_law_l964 N κ L xs z1 z2 b0 rn a bf z8 z9 za k1 f (nI r) (hPut h bf (rfA 9 7 (va_up g (r + 1) x)))) := by
      intro x hxg _
      refine ih f (va_up g (r + 1) x) _ (by omega) (by omega) hM_put_eq (fun j hj w hw => ?_) (fun g' g1 g2 => ?_)
      · rw [vaq_ne (by omega)] at hw
        obtain ⟨w1, fs, w2⟩ := hx j (by omega) w hw
        exact ⟨w1, fs, (hM_put_ne w1).trans w2⟩
      · rw [put_put]
        refine hP g' (fun j j1 j2 => ?_) (fun j hj => ?_)
        · by_cases hjr : j = r + 1
          · rw [g2 j (by omega), hjr, vaq_eq, hxg]
            rfl
          · rw [g1 j j1 (by omega), vaq_ne (by omega)]
        · rw [g2 j (by omega), vaq_ne (by omega)]
    have en : nI (r + 1) + (-1 : Int32) = nI r := npredL r
    cases hg : g r with
    | none =>
      show P ((stN h bf (nI (r + 1))).bind _)
      refine bindP (stN7_of hm (by omega)) ?_
      show P (f_L_law_l964 N κ L xs z1 z2 b0 rn a bf z8 z9 za k1 f (nI (r + 1) + (-1 : Int32)) _)
      rw [en]
      exact tail none hg.symm (fun w hw => by cases hw)
    | some x =>
      obtain ⟨x1, fs, x2⟩ := hx r (by omega) x hg
      show P ((stQ h bf (nI (r + 1)) x).bind _)
      refine bindP (stQ7_of hm x2 (by omega)) ?_
      show P (f_L_law_l964 N κ L xs z1 z2 b0 rn a bf z8 z9 za k1 f (nI (r + 1) + (-1 : Int32)) _)
      rw [en]
      exact tail (some x) hg.symm (fun w hw => by cases hw; exact ⟨x1, fs, x2⟩)
theorem SaleK_o (k : SaleK M b0 rn bf ow h a d K t) : a ≠ bf ∧ ∃ fs, hM h a = some (.inr (12, fs)) := by
  obtain ⟨pu, wo, ha, ⟨lo, bi, tv, q1, -⟩, k2⟩ := k
  exact ⟨(k2 a (Or.inl rfl)).2.2.1, _, q1⟩
/-- one more is kept -/
theorem Bg_push {A : Nat} {g' : Nat → Option Nat} (B : Bg M b0 rn bf κ ow h D g q hd hK ht) (hq : q ≤ 8) (k : SaleK M b0 rn bf ow h A d K t) (g1 : ∀ j, 1 ≤ j → j ≤ 8 → g' j = g (j - 1)) : Bg M b0 rn bf κ ow (hPut h bf (rfA 9 7 (va_up g' 0 (some A)))) (D + 1) (va_up g' 0 (some A)) (q - forg q + 1) (remF hd d q) (remF hK K q) (remF ht t q) := by
  obtain ⟨b1, b2, ⟨b3, b4, b5, b6, b7⟩, ⟨c1, c2, c3, c4, c5, c6⟩, b8, b9⟩ := B
  have f : FC (fun x => x = bf) 0 0 h (hPut h bf (rfA 9 7 (va_up g' 0 (some A)))) := FC_put
  have hw : ∀ y, y = bf → M y := fun y hy => by rw [hy]; exact c2
  have kf : ∀ {a : Nat} {d : Nat → Nat} {K : Nat} {t : Nat → Nat}, SaleK M b0 rn bf ow h a d K t → SaleK M b0 rn bf ow (hPut h bf (rfA 9 7 (va_up g' 0 (some A)))) a d K t := fun k => SaleK_fc k f hw (fun y hy => Or.inr (Or.inr (Or.inl hy)))
  have hf : (forg q = 0 ∧ q ≠ 8) ∨ (forg q = 1 ∧ q = 8) := by
    unfold forg
    split
    · exact Or.inr ⟨rfl, by assumption⟩
    · exact Or.inl ⟨rfl, by assumption⟩
  refine ⟨K20_fc b1 f hw, MB_fc b2 f, ⟨Rn_fc b3 f b6 (Ne.symm c5), b4, b5, b6, b7⟩, ⟨hM_put_eq, c2, c3, c4, c5, c6⟩, fun j j1 j2 => ?_, fun j j1 j2 => ?_⟩
  · by_cases hj : j = 0
    · subst hj
      refine ⟨by omega, A, vaq_eq, ?_⟩
      have e : q - forg q + 1 - 1 - 0 = q - forg q := by omega
      rw [e]
      unfold remF
      rw [if_pos rfl, if_pos rfl, if_pos rfl]
      exact kf k
    · obtain ⟨x1, aj, x2, x3⟩ := b8 (j - 1) (by omega) (by omega)
      refine ⟨by omega, aj, by rw [vaq_ne hj, g1 j (by omega) (by omega)]; exact x2, ?_⟩
      unfold remF
      rw [if_neg (by omega), if_neg (by omega), if_neg (by omega), show q - forg q + 1 - 1 - j + forg q = q - 1 - (j - 1) by omega]
      exact kf x3
  · rw [vaq_ne (by omega), g1 j (by omega) (by omega)]
    exact b9 (j - 1) (by omega) (by omega)
end M92

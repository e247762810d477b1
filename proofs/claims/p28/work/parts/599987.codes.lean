/-- the model's codes -/
def CdM (e t : Nat → Nat) (K : Nat) : Prop := e 10 = mPos t K ∧ ∀ k, k < K → (10004 ≤ t k → e (178 + mPos t k) = t k - 10002) ∧ (t k < 10000 → e (178 + mPos t k) = 0 ∧ e (178 + mPos t k + 1) = t k) ∧ (10000 ≤ t k → t k < 10004 → e (178 + mPos t k) = 1 ∧ e (178 + mPos t k + 1) = t k - 10000)
theorem mPos_congr {t t' : Nat → Nat} : ∀ k, (∀ j, j < k → t' j = t j) → mPos t' k = mPos t k
  | 0, _ => rfl
  | k + 1, h => by
    show mPos t' k + _ = mPos t k + _
    rw [mPos_congr k (fun j hj => h j (by omega)), h k (by omega)]
theorem hgt_congr {t t' : Nat → Nat} : ∀ k, (∀ j, j < k → t' j = t j) → hgt t' k = hgt t k
  | 0, _ => rfl
  | k + 1, h => by
    have ih := hgt_congr (t := t) (t' := t') k (fun j hj => h j (by omega))
    show (if 10004 ≤ t' k then hgt t' k - 1 else hgt t' k + 1) = (if 10004 ≤ t k then hgt t k - 1 else hgt t k + 1)
    rw [ih, h k (by omega)]
theorem upN_lt {t : Nat → Nat} {K c : Nat} : ∀ j, j < K → upN t K c j = t j := fun j hj => upN_ne (by omega)
theorem WFt_push {t : Nat → Nat} {K c : Nat} (hW : WFt t K) (h1 : c ≤ 10007) (h2 : 10004 ≤ c → 2 ≤ hgt t K) (h3 : c < 10004 → hgt t K ≤ 10) : WFt (upN t K c) (K + 1) := fun k hk => by
  have hh := hgt_congr (t := t) (t' := upN t K c) k (fun j hj => upN_lt j (by omega))
  rw [hh]
  by_cases hkK : k = K
  · subst hkK
    rw [upN_eq]
    exact ⟨h1, h2, h3⟩
  · rw [upN_ne hkK]
    exact hW k (by omega)
theorem mPos_step {t : Nat → Nat} {k K : Nat} (hk : k < K) : mPos t k + (if 10004 ≤ t k then 1 else 2) ≤ mPos t K := mPos_mono t (k := k + 1) K hk
theorem CdM_op {e t : Nat → Nat} {K c : Nat} (hC : CdM e t K) (h1 : 10004 ≤ c) : CdM (upN (upN e (178 + mPos t K) (c - 10002)) 10 (mPos t K + 1)) (upN t K c) (K + 1) := by
  obtain ⟨a1, a2⟩ := hC
  have m1 : ∀ k, k ≤ K → mPos (upN t K c) k = mPos t k := fun k hk => mPos_congr k (fun j hj => upN_lt j (by omega))
  refine ⟨?_, fun k hk => ?_⟩
  · rw [upN_eq, mPos_op (by rw [upN_eq]; exact h1), m1 K (Nat.le_refl _)]
  · rw [m1 k (by omega)]
    by_cases hkK : k = K
    · subst hkK
      rw [upN_eq]
      refine ⟨fun _ => ?_, fun h9 => absurd h9 (by omega), fun _ h9 => absurd h9 (by omega)⟩
      rw [upN_ne (by omega), upN_eq]
    · have ms := mPos_step (t := t) (show k < K by omega)
      rw [upN_ne hkK]
      obtain ⟨b1, b2', b3⟩ := a2 k (by omega)
      by_cases ho : 10004 ≤ t k
      · rw [if_pos ho] at ms
        refine ⟨fun _ => ?_, fun h9 => absurd h9 (by omega), fun _ h9 => absurd h9 (by omega)⟩
        rw [upN_ne (by omega), upN_ne (by omega)]
        exact b1 ho
      · rw [if_neg ho] at ms
        rw [upN_ne (show 178 + mPos t k ≠ 10 by omega), upN_ne (show 178 + mPos t k ≠ 178 + mPos t K by omega), upN_ne (show 178 + mPos t k + 1 ≠ 10 by omega), upN_ne (show 178 + mPos t k + 1 ≠ 178 + mPos t K by omega)]
        exact ⟨b1, b2', b3⟩
/-- a literal or a variable: w = 0 or 1, then the number -/
theorem CdM_va {e t : Nat → Nat} {K c w x : Nat} (hC : CdM e t K) (h1 : c < 10004) (hw : (c < 10000 → w = 0 ∧ x = c) ∧ (10000 ≤ c → w = 1 ∧ x = c - 10000)) : CdM (upN (upN (upN (upN e (178 + mPos t K) w) 10 (mPos t K + 1)) (178 + (mPos t K + 1)) x) 10 (mPos t K + 1 + 1)) (upN t K c) (K + 1) := by
  obtain ⟨a1, a2⟩ := hC
  have m1 : ∀ k, k ≤ K → mPos (upN t K c) k = mPos t k := fun k hk => mPos_congr k (fun j hj => upN_lt j (by omega))
  refine ⟨?_, fun k hk => ?_⟩
  · rw [upN_eq, mPos_va (by rw [upN_eq]; exact h1), m1 K (Nat.le_refl _)]
  · rw [m1 k (by omega)]
    by_cases hkK : k = K
    · subst hkK
      rw [upN_eq]
      have v0 : upN (upN (upN (upN e (178 + mPos t k) w) 10 (mPos t k + 1)) (178 + (mPos t k + 1)) x) 10 (mPos t k + 1 + 1) (178 + mPos t k) = w := by
        rw [upN_ne (by omega), upN_ne (by omega), upN_ne (by omega), upN_eq]
      have v1 : upN (upN (upN (upN e (178 + mPos t k) w) 10 (mPos t k + 1)) (178 + (mPos t k + 1)) x) 10 (mPos t k + 1 + 1) (178 + mPos t k + 1) = x := by
        rw [upN_ne (by omega), show 178 + mPos t k + 1 = 178 + (mPos t k + 1) by omega, upN_eq]
      rw [v0, v1]
      refine ⟨fun h9 => absurd h9 (by omega), fun h9 => hw.1 h9, fun h9 _ => hw.2 h9⟩
    · have ms := mPos_step (t := t) (show k < K by omega)
      rw [upN_ne hkK]
      obtain ⟨b1, b2', b3⟩ := a2 k (by omega)
      have keep : ∀ y, y ≠ 10 → y < 178 + mPos t K → upN (upN (upN (upN e (178 + mPos t K) w) 10 (mPos t K + 1)) (178 + (mPos t K + 1)) x) 10 (mPos t K + 1 + 1) y = e y := fun y h2 h3 => by
        rw [upN_ne h2, upN_ne (by omega), upN_ne h2, upN_ne (by omega)]
      by_cases ho : 10004 ≤ t k
      · rw [if_pos ho] at ms
        refine ⟨fun _ => ?_, fun h9 => absurd h9 (by omega), fun _ h9 => absurd h9 (by omega)⟩
        rw [keep _ (by omega) (by omega)]
        exact b1 ho
      · rw [if_neg ho] at ms
        rw [keep _ (by omega) (by omega), keep _ (by omega) (by omega)]
        exact ⟨b1, b2', b3⟩
section M99987
variable {h h2 : zH} {q g m N : Nat} {V B C : Nat → Int32} {cz : Int32} {S B1 D E : Nat → Int32} {H : Nat → Nat → Int32} {J : Nat → Int64} {L U Z W : Nat → Int32} {e : Nat → Nat}
theorem x_pushC {K : Nat} {x : Int32} (hcz : cz = nI K) (hK : K < 700) : f_X6_push N (q + 2) x (rset h q g V B cz C) = some (rset h q g V B (nI (K + 1)) (upd C K x)) := by
  subst hcz
  simp (disch := omega) only [f_X6_push, rg_A, r_lenC, r_stC, rp_z, nlit, nltF, nleF, nadd, ↓reduceIte, Option.bind_some]
theorem x_pushF {K : Nat} {x : Int32} (hcz : cz = nI K) (hK : K ≤ 700) : ∃ cz' C' K', f_X6_push N (q + 2) x (rset h q g V B cz C) = some (rset h q g V B cz' C') ∧ cz' = nI K' ∧ K' ≤ 700 := by
  by_cases h1 : K < 700
  · exact ⟨_, _, K + 1, x_pushC hcz h1, rfl, by omega⟩
  · refine ⟨cz, C, K, ?_, hcz, hK⟩
    subst hcz
    simp (disch := omega) only [f_X6_push, rg_A, r_lenC, r_stC, rp_z, nlit, nltF, nleT, nadd, ↓reduceIte, Option.bind_some]
end M99987
/-- what a reading step keeps of the class's numbers -/
def VK (V V' : Nat → Int32) : Prop := ∀ k, k ≠ 4 → k ≠ 5 → k ≠ 6 → k ≠ 7 → k ≠ 8 → k ≠ 12 → k ≠ 13 → V' k = V k
def SK3 (S S' : Nat → Int32) : Prop := ∀ k, k ≠ 4 → k ≠ 5 → k ≠ 6 → k ≠ 12 → k ≠ 13 → S' k = S k
/-- both stand at q, with no error -/
def At (b : Nat → Nat) (len : Nat) (V S : Nat → Int32) (q : Nat) : Prop := q ≤ len ∧ skp b len q = q ∧ TokAt V b len q ∧ V 12 = nI 0 ∧ (∃ pm, pm ≤ len ∧ skp b len pm = q ∧ S 4 = nI pm) ∧ S 3 = nI len ∧ S 5 = nI 0
/-- both have failed -/
def Fl (V V' S S' : Nat → Int32) (cz : Int32) : Prop := V' 12 = S' 5 ∧ S' 5 ≠ nI 0 ∧ V' 13 = S' 6 ∧ VK V V' ∧ SK3 S S' ∧ ∃ K', K' ≤ 700 ∧ cz = nI K'
theorem TokAt_skp {V : Nat → Int32} {b : Nat → Nat} {len p : Nat} (hp : p ≤ len) (hT : TokAt V b len p) : TokAt V b len (skp b len p) := by
  unfold TokAt at *
  rw [skp_skp hp]
  exact hT
theorem At_mk {b : Nat → Nat} {len p : Nat} {V S : Nat → Int32} (hp : p ≤ len) (hT : TokAt V b len p) (h12 : V 12 = nI 0) (h4 : S 4 = nI p) (h3 : S 3 = nI len) (h5 : S 5 = nI 0) : At b len V S (skp b len p) := ⟨(skp_le hp).2, skp_skp hp, TokAt_skp hp hT, h12, ⟨p, hp, rfl, h4⟩, h3, h5⟩
theorem VK_tr {V V' V'' : Nat → Int32} (h1 : VK V V') (h2 : VK V' V'') : VK V V'' := fun k a b c d e f g => (h2 k a b c d e f g).trans (h1 k a b c d e f g)
theorem V45_tr {V V' V'' : Nat → Int32} (h1 : V45 V V') (h2 : V45 V' V'') : V45 V V'' := fun k a b c d e => (h2 k a b c d e).trans (h1 k a b c d e)
theorem V45_VK {V V' : Nat → Int32} (h1 : V45 V V') : VK V V' := fun k a b c d e _ _ => h1 k a b c d e
theorem VK_err {V : Nat → Int32} {code : Int32} {off : Nat} : VK V (errV V code off) := fun k _ _ _ _ _ f g => by
  unfold errV
  rw [upS_ne g, upS_ne f]
theorem SK3_tr {S S' S'' : Nat → Int32} (h1 : SK3 S S') (h2 : SK3 S' S'') : SK3 S S'' := fun k a b c d e => (h2 k a b c d e).trans (h1 k a b c d e)
theorem SK_3 {S S' : Nat → Int32} (h1 : SK S S') : SK3 S S' := fun k a b c d _ => h1 k a b c d
theorem SK3_13 {S : Nat → Int32} {x : Int32} : SK3 S (upd S 13 x) := fun k _ _ _ _ e => upS_ne e
theorem Fl_tr {V V' V'' S S' S'' : Nat → Int32} {cz : Int32} (h1 : VK V V') (h2 : SK3 S S') (hF : Fl V' V'' S' S'' cz) : Fl V V'' S S'' cz := by
  obtain ⟨a, b, c, d, e, f⟩ := hF
  exact ⟨a, b, c, VK_tr h1 d, SK3_tr h2 e, f⟩
theorem Fl_13 {V V' S S' : Nat → Int32} {cz x : Int32} (hF : Fl V V' S S' cz) : Fl V V' S (upd S' 13 x) cz := by
  obtain ⟨a, b, c, d, e, f⟩ := hF
  exact ⟨by rw [upS_ne (by omega)]; exact a, by rw [upS_ne (by omega)]; exact b, by rw [upS_ne (by omega)]; exact c, d, SK3_tr e SK3_13, f⟩
theorem errs_ne : (-nI 2 : Int32) ≠ nI 0 ∧ (-nI 3 : Int32) ≠ nI 0 ∧ (-nI 4 : Int32) ≠ nI 0 ∧ (-nI 5 : Int32) ≠ nI 0 := by decide
theorem Fl_mk {V S : Nat → Int32} {p off K : Nat} {cz code : Int32} (hc : code ≠ nI 0) (hcz : cz = nI K) (hK : K ≤ 700) : Fl V (errV V code off) S (mErr S p code off) cz := by
  unfold Fl
  refine ⟨?_, ?_, ?_, VK_err, SK_3 SK_err, K, hK, hcz⟩
  · unfold errV mErr
    rw [upS_ne (by omega), upS_eq, upS_ne (by omega), upS_eq]
  · unfold mErr
    rw [upS_ne (by omega), upS_eq]
    exact hc
  · unfold errV mErr
    rw [upS_eq, upS_eq]

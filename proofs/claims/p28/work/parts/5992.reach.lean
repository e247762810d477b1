def Rch (k : Nat) (g : Nat → Nat) (but a m e : Nat) : Prop := ∀ P : Nat → Nat → Prop, P 0 a → (∀ m e c, P m e → m < 2 ^ k → c < k → c ≠ but → bitN m c = 0 → P (m + 2 ^ c) (mulN e (g c))) → P m e
section RCH
variable {k but a m e c : Nat} {g : Nat → Nat}
theorem Rch_0 : Rch k g but a 0 a := fun P h0 _ => h0
theorem Rch_step (h : Rch k g but a m e) (hm : m < 2 ^ k) (hc : c < k) (hb : c ≠ but) (h0 : bitN m c = 0) : Rch k g but a (m + 2 ^ c) (mulN e (g c)) := fun P p0 ps => ps m e c (h P p0 ps) hm hc hb h0
theorem Rch_in {n : Nat} (hk : k ≤ 8) (hn : inN n) (ha : a < fctN n) (hg : ∀ c, c < k → g c < fctN n) (h : Rch k g but a m e) : m < 2 ^ k ∧ e < fctN n := by
  refine h (fun m e => m < 2 ^ k ∧ e < fctN n) ⟨(pow2_le hk).2, ha⟩ ?_
  intro m e c ⟨h1, h2⟩ _ hc _ h0
  exact ⟨(bit_add hk h1 hc h0).1, mul_in hn h2 (hg c hc)⟩
theorem Rch_but {n : Nat} (hk : k ≤ 8) (h : Rch k g but a m e) (hbut : but < k) : bitN m but = 0 := by
  have := h (fun m e => bitN m but = 0) (by unfold bitN; rw [Nat.zero_div]) ?_
  · exact this
  · intro m e c h1 hm hc hne h0
    rw [bit_other hk hm (by omega) (by omega) h0 (Ne.symm hne)]
    exact h1
/-- another start -/
theorem Rch_mul1 {b : Nat} (hk : k ≤ 8) (hb : b < 120) (ha : a < 120) (hg : ∀ c, c < k → g c < 120) (h : Rch k g but (mulN b a) m e) : ∃ x, x < 120 ∧ Rch k g but a m x ∧ e = mulN b x := by
  refine h (fun m e => ∃ x, x < 120 ∧ Rch k g but a m x ∧ e = mulN b x) ⟨a, ha, Rch_0, rfl⟩ ?_
  intro m e c ⟨x, x0, h1, h2⟩ hm hc hne h0
  exact ⟨mulN x (g c), mul_lt x0 (hg c hc), Rch_step h1 hm hc hne h0, by rw [h2, mul_assoc' hb x0 (hg c hc)]⟩
theorem Rch_mul2 {b : Nat} (hk : k ≤ 8) (hb : b < 120) (ha : a < 120) (hg : ∀ c, c < k → g c < 120) (h : Rch k g but a m e) : Rch k g but (mulN b a) m (mulN b e) := by
  have := h (fun m e => e < 120 ∧ Rch k g but (mulN b a) m (mulN b e)) ⟨ha, Rch_0⟩ ?_
  · exact this.2
  · intro m e c ⟨h1, h2⟩ hm hc hne h0
    refine ⟨mul_lt h1 (hg c hc), ?_⟩
    rw [← mul_assoc' hb h1 (hg c hc)]
    exact Rch_step h2 hm hc hne h0
/-- the neutral one is reached from b where b's inverse is reached from the neutral one -/
theorem Rch_win {b : Nat} (hk : k ≤ 8) (hb : b < 120) (hg : ∀ c, c < k → g c < 120) : Rch k g but b m 0 ↔ Rch k g but 0 m (invN b) := by
  constructor
  · intro h
    rw [← mul_0 hb] at h
    obtain ⟨x, x0, h1, h2⟩ := Rch_mul1 hk hb (by omega) hg h
    rw [← (mul_eq0 hb x0).mp h2.symm]
    exact h1
  · intro h
    have := Rch_mul2 hk hb (by omega) hg h
    rw [mul_0 hb, mul_inv hb] at this
    exact this
/-- the first card played first -/
theorem Rch_first {b : Nat} (hk : k ≤ 8) (hc : c < k) (h : Rch k g c (mulN b (g c)) m e) (hbut : ∀ j, j < k → j ≠ but) : bitN m c = 0 ∧ Rch k g but b (m + 2 ^ c) e := by
  have := h (fun m e => m < 2 ^ k ∧ bitN m c = 0 ∧ Rch k g but b (m + 2 ^ c) e) ⟨(pow2_le hk).2, by unfold bitN; rw [Nat.zero_div], Rch_step Rch_0 (pow2_le hk).2 hc (hbut c hc) (by unfold bitN; rw [Nat.zero_div])⟩ ?_
  · exact this.2
  · intro m e c' ⟨h1, h2, h3⟩ hm hc' hne h0
    have e1 := bit_other hk hm (show c' < 8 by omega) (show c < 8 by omega) h0 (Ne.symm hne)
    have b1 := bit_add hk hm hc' h0
    refine ⟨b1.1, e1.trans h2, ?_⟩
    have b2 := bit_add hk hm hc h2
    have e2 := bit_other hk hm (show c < 8 by omega) (show c' < 8 by omega) h2 hne
    have := Rch_step h3 b2.1 hc' (hbut c' hc') (e2.trans h0)
    rw [show m + 2 ^ c' + 2 ^ c = m + 2 ^ c + 2 ^ c' by omega]
    exact this
/-- masks without a card are reached without it -/
theorem Rch_without (hk : k ≤ 8) (hc : c < k) (h : Rch k g but a m e) (hbut : ∀ j, j < k → j ≠ but) (hb : bitN m c = 0) : Rch k g c a m e := by
  have := h (fun m e => m < 2 ^ k ∧ (bitN m c = 0 → Rch k g c a m e)) ⟨(pow2_le hk).2, fun _ => Rch_0⟩ ?_
  · exact this.2 hb
  · intro m e c' ⟨h1, h2⟩ hm hc' hne h0
    refine ⟨(bit_add hk hm hc' h0).1, fun h3 => ?_⟩
    have hcc : c' ≠ c := fun h9 => by
      subst h9
      rw [(bit_add hk hm hc' h0).2.1] at h3
      omega
    rw [bit_other hk hm (show c' < 8 by omega) (show c < 8 by omega) h0 (Ne.symm hcc)] at h3
    exact Rch_step (h2 h3) hm hc' hcc h0
theorem Rch_more (hk : k ≤ 8) (h : Rch k g c a m e) (hbut : ∀ j, j < k → j ≠ but) : Rch k g but a m e := h (fun m e => Rch k g but a m e) Rch_0 (fun m e c' h1 hm hc' hne h0 => Rch_step h1 hm hc' (hbut c' hc') h0)
end RCH
def Snd (n k : Nat) (g : Nat → Nat) (but a : Nat) (A : Nat → Nat → Bool) : Prop := ∀ m e, m < 2 ^ k → e < fctN n → A m e = true → Rch k g but a m e
def Cld (n k : Nat) (g : Nat → Nat) (but M : Nat) (A : Nat → Nat → Bool) : Prop := ∀ m e c, m < M → m < 2 ^ k → e < fctN n → A m e = true → c < k → c ≠ but → bitN m c = 0 → A (m + 2 ^ c) (mulN e (g c)) = true
theorem Tab_iff {n k but a : Nat} {g : Nat → Nat} {A : Nat → Nat → Bool} (hk : k ≤ 8) (hn : inN n) (ha : a < fctN n) (hg : ∀ c, c < k → g c < fctN n) (h0 : A 0 a = true) (hS : Snd n k g but a A) (hC : Cld n k g but (2 ^ k) A) {m e : Nat} (hm : m < 2 ^ k) (he : e < fctN n) : A m e = true ↔ Rch k g but a m e := by
  constructor
  · exact hS m e hm he
  · intro h
    have := h (fun m e => m < 2 ^ k ∧ e < fctN n ∧ A m e = true) ⟨(pow2_le hk).2, ha, h0⟩ ?_
    · exact this.2.2
    · intro m e c ⟨h1, h2, h3⟩ hm hc hne hb
      exact ⟨(bit_add hk hm hc hb).1, mul_in hn h2 (hg c hc), hC m e c h1 h1 h2 h3 hc hne hb⟩
/-- the table after one mask is done -/
def Ext (n k : Nat) (g : Nat → Nat) (but m : Nat) (A A' : Nat → Nat → Bool) : Prop := ∀ m' e', m' < 2 ^ k → e' < fctN n → (A' m' e' = true ↔ A m' e' = true ∨ ∃ c e, c < k ∧ c ≠ but ∧ bitN m c = 0 ∧ e < fctN n ∧ A m e = true ∧ m' = m + 2 ^ c ∧ e' = mulN e (g c))
theorem Ext_ok {n k but a m : Nat} {g : Nat → Nat} {A A' : Nat → Nat → Bool} (hk : k ≤ 8) (hn : inN n) (hg : ∀ c, c < k → g c < fctN n) (hm : m < 2 ^ k) (hE : Ext n k g but m A A') (ha : a < fctN n) (h0 : A 0 a = true) (hS : Snd n k g but a A) (hC : Cld n k g but m A) : A' 0 a = true ∧ Snd n k g but a A' ∧ Cld n k g but (m + 1) A' := by
  refine ⟨(hE 0 a (pow2_le hk).2 ha).mpr (Or.inl h0), fun m' e' hm' he' h1 => ?_, fun m' e' c hm1 hm' he' h1 hc hne hb => ?_⟩
  · rcases (hE m' e' hm' he').mp h1 with h2 | ⟨c, e, hc, hne, hb, he, h3, rfl, rfl⟩
    · exact hS m' e' hm' he' h2
    · exact Rch_step (hS m e hm he h3) hm hc hne hb
  · have b1 := bit_add hk hm' hc hb
    refine (hE _ _ b1.1 (mul_in hn he' (hg c hc))).mpr ?_
    have hA : A m' e' = true := by
      rcases (hE m' e' hm' he').mp h1 with h2 | ⟨c', e, hc', hne', hb', he, h3, h4, h5⟩
      · exact h2
      · have := Nat.two_pow_pos c'
        omega
    by_cases hmm : m' = m
    · subst hmm
      exact Or.inr ⟨c, e', hc, hne, hb, he', hA, rfl, rfl⟩
    · exact Or.inl (hC m' e' c (by omega) hm' he' hA hc hne hb)

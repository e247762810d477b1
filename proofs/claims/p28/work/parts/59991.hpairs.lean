theorem fewR_spec {b : Nat → Bool} : ∀ r m best, (∀ v, fewR b r m best = some v → (best = some v ∨ ∃ j, m ≤ j ∧ j < m + r ∧ b j = true ∧ popN j = v)) ∧ (∀ j, m ≤ j → j < m + r → b j = true → ∃ v, fewR b r m best = some v ∧ v ≤ popN j) ∧ (∀ u, best = some u → ∃ v, fewR b r m best = some v ∧ v ≤ u)
  | 0, m, best => ⟨fun v h => Or.inl h, fun j h1 h2 => by omega, fun u h => ⟨u, h, Nat.le_refl u⟩⟩
  | r + 1, m, best => by
    obtain ⟨i1, i2, i3⟩ := fewR_spec (b := b) r (m + 1) (fewU (b m) m best)
    have e : fewR b (r + 1) m best = fewR b r (m + 1) (fewU (b m) m best) := rfl
    rw [e]
    have hu1 : ∀ v, fewU (b m) m best = some v → best = some v ∨ (b m = true ∧ popN m = v) := by
      intro v hv
      unfold fewU at hv
      split at hv
      · next hb =>
        split at hv
        · cases hv; exact Or.inr ⟨hb, rfl⟩
        · split at hv
          · cases hv; exact Or.inl rfl
          · cases hv; exact Or.inr ⟨hb, rfl⟩
      · exact Or.inl hv
    have hu2 : b m = true → ∃ v, fewU (b m) m best = some v ∧ v ≤ popN m := by
      intro hb
      unfold fewU
      rw [if_pos hb]
      cases best with
      | none => exact ⟨_, rfl, Nat.le_refl _⟩
      | some u =>
        show ∃ v, (if u ≤ popN m then some u else some (popN m)) = some v ∧ _
        split
        · exact ⟨u, rfl, by assumption⟩
        · exact ⟨_, rfl, Nat.le_refl _⟩
    have hu3 : ∀ u, best = some u → ∃ v, fewU (b m) m best = some v ∧ v ≤ u := by
      intro u hu
      subst hu
      unfold fewU
      split
      · show ∃ v, (if u ≤ popN m then some u else some (popN m)) = some v ∧ _
        split
        · exact ⟨u, rfl, Nat.le_refl u⟩
        · exact ⟨_, rfl, by omega⟩
      · exact ⟨u, rfl, Nat.le_refl u⟩
    refine ⟨fun v hv => ?_, fun j h1 h2 hb => ?_, fun u hu => ?_⟩
    · rcases i1 v hv with h1 | ⟨j, h1, h2, h3, h4⟩
      · rcases hu1 v h1 with h5 | ⟨h5, h6⟩
        · exact Or.inl h5
        · exact Or.inr ⟨m, Nat.le_refl m, by omega, h5, h6⟩
      · exact Or.inr ⟨j, by omega, by omega, h3, h4⟩
    · by_cases hj : j = m
      · subst hj
        obtain ⟨v, v1, v2⟩ := hu2 hb
        obtain ⟨w, w1, w2⟩ := i3 v v1
        exact ⟨w, w1, by omega⟩
      · exact i2 j (by omega) (by omega) hb
    · obtain ⟨v, v1, v2⟩ := hu3 u hu
      obtain ⟨w, w1, w2⟩ := i3 v v1
      exact ⟨w, w1, by omega⟩
theorem popN_pos : ∀ m : Fin 256, m.val ≠ 0 → 0 < popN m.val := by decide +kernel
theorem popN_pos' {m : Nat} (h0 : 0 < m) (h : m < 256) : 0 < popN m := popN_pos ⟨m, h⟩ (by show m ≠ 0; omega)
theorem inv_mul_rev {a b : Nat} (ha : a < 120) (hb : b < 120) : mulN (invN b) (invN a) = invN (mulN a b) := by
  refine (mul_eq0 (mul_lt ha hb) (mul_lt (inv_lt hb) (inv_lt ha))).mp ?_
  rw [mul_assoc' ha hb (mul_lt (inv_lt hb) (inv_lt ha)), ← mul_assoc' hb (inv_lt hb) (inv_lt ha), mul_inv hb, zero_mul' (inv_lt ha), mul_inv ha]
theorem bool_iff {a b : Bool} (h : a = true ↔ b = true) : a = b := by
  cases a <;> cases b <;> simp_all
/-- the card that opens: both sides' tests -/
theorem open_eq {n k P c few : Nat} {G : Nat → Nat} {τ : Nat → Int64} {Z : Nat → Int32} (hn : inN n) (hk : k ≤ 8) (hP : P < fctN n) (hG : ∀ c, c < k → G c < fctN n) (hc : c < k) (hτ : ∀ m e, m < 2 ^ k → e < fctN n → (AT τ m e = true ↔ Rch k G 9 0 m e)) (hZ : ∀ m e, m < 2 ^ k → e < fctN n → (AZ Z n m e = true ↔ Rch k G c (mulN P (G c)) m e)) (hf : fewR (fun m => AT τ m (invN P)) (2 ^ k - 1) 1 none = some few) : anyR (opnB τ few c (mulN (invN (G c)) (invN P))) (2 ^ k - 1) 1 = true ↔ fewR (fun j => AZ Z n j 0) (2 ^ k) 0 none = some (few - 1) := by
  have hfl := fct_le hn
  have h1f := Nat.lt_trans Nat.zero_lt_one (fct_pos hn)
  have p2 := pow2_le hk
  have hP12 : P < 120 := by omega
  have hGc := hG c hc
  have hG12 : ∀ c, c < k → G c < 120 := fun c hc => by have := hG c hc; omega
  have hb9 : ∀ j, j < k → j ≠ 9 := fun j hj => by omega
  have hPg := mul_in hn hP hGc
  have hPg12 : mulN P (G c) < 120 := by omega
  rw [inv_mul_rev hP12 (hG12 c hc)]
  obtain ⟨f1, f2, -⟩ := fewR_spec (b := fun m => AT τ m (invN P)) (2 ^ k - 1) 1 none
  obtain ⟨z1, z2, -⟩ := fewR_spec (b := fun j => AZ Z n j 0) (2 ^ k) 0 none
  have hfew : 0 < few := by
    rcases f1 few hf with h9 | ⟨j, j1, j2, j3, j4⟩
    · cases h9
    · rw [← j4]; exact popN_pos' (by omega) (by omega)
  -- what a set without the card says
  have key1 : ∀ m, m < 2 ^ k → AZ Z n m 0 = true → bitN m c = 0 ∧ few ≤ popN m + 1 := by
    intro m hm h9
    have r1 := (hZ m 0 hm h1f).mp h9
    obtain ⟨r2, r3⟩ := Rch_first (but := 9) hk hc r1 hb9
    refine ⟨r2, ?_⟩
    have ba := bit_add hk hm hc r2
    have r4 := (Rch_win hk hP12 hG12).mp r3
    have r5 := (hτ _ _ ba.1 (inv_in hn hP)).mpr r4
    have := Nat.two_pow_pos c
    obtain ⟨v, v1, v2⟩ := f2 (m + 2 ^ c) (by omega) (by omega) r5
    rw [hf] at v1
    cases v1
    omega
  have key2 : ∀ m, m < 2 ^ k → bitN m c = 0 → (AT τ m (invN (mulN P (G c))) = true ↔ AZ Z n m 0 = true) := by
    intro m hm hb
    rw [hτ m _ hm (inv_in hn hPg), hZ m 0 hm h1f]
    constructor
    · intro h9
      exact Rch_without hk hc ((Rch_win hk hPg12 hG12).mpr h9) hb9 hb
    · intro h9
      exact (Rch_win hk hPg12 hG12).mp (Rch_more hk h9 hb9)
  constructor
  · intro h9
    obtain ⟨m, m1, m2, m3⟩ := (anyR_iff _ _ _).mp h9
    unfold opnB at m3
    simp only [Bool.and_eq_true, decide_eq_true_eq] at m3
    obtain ⟨⟨m4, m5⟩, m6⟩ := m3
    have bs := bit_sub hk (show m < 2 ^ k by omega) (show c < 8 by omega) m5
    have ml : m - 2 ^ c < 2 ^ k := Nat.lt_of_le_of_lt (Nat.sub_le _ _) (by omega)
    have a1 := (key2 _ ml bs.2.1).mp m6
    obtain ⟨v, v1, v2⟩ := z2 (m - 2 ^ c) (Nat.zero_le _) (by omega) a1
    rcases z1 v v1 with h8 | ⟨j, j1, j2, j3, j4⟩
    · cases h8
    · have := (key1 j (by omega) j3).2
      rw [v1]
      have : v = few - 1 := by omega
      rw [this]
  · intro h9
    rcases z1 _ h9 with h8 | ⟨j, j1, j2, j3, j4⟩
    · cases h8
    · have j2' : j < 2 ^ k := by omega
      obtain ⟨b1, b2'⟩ := key1 j j2' j3
      have ba := bit_add hk j2' hc b1
      have := Nat.two_pow_pos c
      refine (anyR_iff _ _ _).mpr ⟨j + 2 ^ c, by omega, by omega, ?_⟩
      unfold opnB
      simp only [Bool.and_eq_true, decide_eq_true_eq]
      rw [Nat.add_sub_cancel]
      exact ⟨⟨by omega, ba.2.1⟩, (key2 j j2' b1).mpr j3⟩
section M9991
variable {h h' h1 : zH} {b0 K N q z : Nat} {ea : Int32} {d : Nat → Nat} {t : Nat → Nat} {hd : Nat → Nat → Nat} {hK : Nat → Nat} {ht : Nat → Nat → Nat} {B : Nat → Int32} {x y cz : Int32} {A F : Nat → Int32} {τ : Nat → Int64}
theorem Han_self (hH : HanAt b0 h) : ∃ (x y cz : Int32) (A F : Nat → Int32) (τ : Nat → Int64), hset h (b0 + 390) (b0 + 1) x y A τ cz F = h := by
  obtain ⟨x, y, cz, A, F, τ, h1, h2, h3, h4, h5⟩ := hH
  refine ⟨x, y, cz, A, F, τ, rs_self fun j e hj hc => ?_⟩
  rcases j5 hj with rfl | rfl | rfl | rfl | rfl
  · cases hc; exact h1
  · cases hc; exact h2
  · cases hc; exact h3
  · cases hc; exact h4
  · cases hc; exact h5
theorem WC_hs (hW : WC b0 h (d, K, t, (q, hd, hK, ht), ea, z, B)) : WC b0 (hset h (b0 + 390) (b0 + 1) x y A τ cz F) (d, K, t, (q, hd, hK, ht), ea, z, B) := by
  obtain ⟨⟨⟨w1, w2, w3⟩, w4, w5, w6, w7, w8⟩, ⟨a1, a2, a3⟩, w9, w10⟩ := hW
  have fr : ∀ q, q < b0 + 390 ∨ b0 + 395 ≤ q → hM (hset h (b0 + 390) (b0 + 1) x y A τ cz F) q = hM h q := fun q hq => rs_out (by omega)
  have rr : ∀ rl k, RAd b0 h rl → k < 3 → simc h (hset h (b0 + 390) (b0 + 1) x y A τ cz F) (rl + k) := by
    intro rl k hr hk
    obtain ⟨-, hr⟩ := hr
    exact Or.inl (fr _ (by rcases hr with ⟨i, h1, h2⟩ | ⟨i, h1, h2⟩ | h2 <;> omega))
  exact ⟨⟨⟨(fr _ (by omega)).trans w1, GrpAt_hs w2, w3⟩, RdrAt_sim w4 (fun q _ _ => Or.inl (fr q (by omega))), ⟨x, y, cz, A, F, τ, hs_0, hs_1, hs_2, hs_3, hs_4⟩, AucRaw_sim w6 (fun q _ _ => Or.inl (fr q (by omega))), RuleAt_sim w7 (fun k hk => Or.inl (fr _ (by omega))), w8⟩, ⟨AucAt_hs a1, a2, a3⟩, HisAt_sim w9 (Nat.le_refl _) (fun q _ _ => Or.inl (fr q (by omega))) rr, w10⟩
theorem Keep_hs : Keep b0 h (hset h (b0 + 390) (b0 + 1) x y A τ cz F) := ⟨fun q _ _ => rs_out (by omega), Nat.le_refl _, Nat.le_add_right _ _, Nat.le_refl _, Nat.le_add_right _ _⟩
end M9991

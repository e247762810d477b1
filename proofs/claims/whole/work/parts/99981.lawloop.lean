/-! ===== the law: all calls ===== -/
theorem zth_of {α β : Type} {r : α ⊕ Nat} {x : α} {A : α → Option β} {B : Nat → Option β} {w : Option β} (hr : r = .inl x) (h : A x = w) : zth r A B = w := by
  subst hr
  exact h
theorem and31 (x : Int32) : ∃ k, k < 32 ∧ x &&& 31 = nI k := by
  refine ⟨ux (x &&& 31), ?_, ?_⟩
  · unfold ux
    rw [Int32.toUInt32_and, UInt32.toNat_and]
    have e1 : (Int32.toUInt32 31).toNat = 2 ^ 5 - 1 := by decide
    rw [e1, Nat.and_two_pow_sub_one_eq_mod]
    exact Nat.mod_lt _ (by omega)
  · have h : ux (x &&& 31) < 2 ^ 32 := UInt32.toNat_lt _
    exact ux_inj (ux_nI h).symm
section M99981
variable {b0 N M0 j L : Nat} {h : zH} {xs : Nat → Int32}
theorem law_0 {i fuel : Nat} (hNN : 54400 < N) (hL : L ≤ 3072) (hi : i + 6 ≤ L) (hI : InvL b0 M0 h j) (hk : xs i &&& 31 = nI 0) : ∃ hB, f_L_law_l23 N L xs b0 (b0 + 395) (b0 + 413) (fuel + 1) (nI i) h = f_L_law_l23 N L xs b0 (b0 + 395) (b0 + 413) fuel (nI i + (6 : Int32)) hB ∧ InvL b0 M0 hB (j + 1) := by
  have hx : ldS L xs (nI i) = some (xs i) := ld_S (by omega) hL
  have hl : ∀ a, a < 6 → ldS L xs (nI i + nI a) = some (xs (i + a)) := fun a ha => by rw [nadd]; exact ld_S (by omega) hL
  have hc : ¬ (nI L - (6 : Int32) < nI i) := fun h9 => by have := (law_cond hL (by omega)).mp h9; omega
  obtain ⟨⟨s, th, hW, hM1⟩, ho, hs1, hn1⟩ := id hI
  obtain ⟨d, K, t, ⟨q, hd, hK, ht⟩, ea, z, B⟩ := s
  obtain ⟨r, hA, hB, q1, q2, q5⟩ := L_N hW hM1 ho hs1 hn1 (PR_append (N := N) (by omega) hW (xs (i + 1)) (xs (i + 2)) (xs (i + 3)) (xs (i + 4)) (xs (i + 5)))
  refine ⟨hB, ?_, q5⟩
  rw [f_L_law_l23]
  refine (if_neg hc).trans ?_
  refine bind_of hx ?_
  refine zjn_of ?_
  refine (if_pos hk).trans ?_
  refine bind_of (hl 1 (by omega)) ?_
  refine bind_of (hl 2 (by omega)) ?_
  refine bind_of (hl 3 (by omega)) ?_
  refine bind_of (hl 4 (by omega)) ?_
  refine bind_of (hl 5 (by omega)) ?_
  refine bind_of q1 ?_
  refine bind_of (hl 1 (by omega)) ?_
  refine bind_of (hl 2 (by omega)) ?_
  refine bind_of (hl 3 (by omega)) ?_
  refine bind_of (hl 4 (by omega)) ?_
  refine bind_of (hl 5 (by omega)) ?_
  refine bind_of q2 ?_
  exact if_pos rfl
theorem law_1 {i fuel : Nat} (hNN : 54400 < N) (hLoad : ∀ (h : zH) (s : St) (x : Int32), WC b0 h s → PairW b0 (f_X8_load N b0 x) (f_X9_load N (b0 + 395) x) cSt h s) (hL : L ≤ 3072) (hi : i + 6 ≤ L) (hI : InvL b0 M0 h j) (hk : xs i &&& 31 = nI 1) : ∃ hB, f_L_law_l23 N L xs b0 (b0 + 395) (b0 + 413) (fuel + 1) (nI i) h = f_L_law_l23 N L xs b0 (b0 + 395) (b0 + 413) fuel (nI i + (6 : Int32)) hB ∧ InvL b0 M0 hB (j + 1) := by
  have hx : ldS L xs (nI i) = some (xs i) := ld_S (by omega) hL
  have hl : ∀ a, a < 6 → ldS L xs (nI i + nI a) = some (xs (i + a)) := fun a ha => by rw [nadd]; exact ld_S (by omega) hL
  have hc : ¬ (nI L - (6 : Int32) < nI i) := fun h9 => by have := (law_cond hL (by omega)).mp h9; omega
  have hne : ∀ c, c < 1 → ¬ xs i &&& 31 = nI c := fun c hc9 h9 => by rw [hk, neq (by omega) (by omega)] at h9; omega
  obtain ⟨kk, hA, b, hB, q1, q2, q3, q4, q5⟩ := L_load (N := N) (xs := xs) (i := i) hNN hLoad hI
  refine ⟨hB, ?_, q5⟩
  rw [f_L_law_l23]
  refine (if_neg hc).trans ?_
  refine bind_of hx ?_
  refine zjn_of ?_
  refine (if_neg (hne 0 (by omega))).trans ?_
  refine (if_pos hk).trans ?_
  refine bind_of (hl 1 (by omega)) ?_
  refine bind_of q1 ?_
  refine bind_of (hl 1 (by omega)) ?_
  refine bind_of q2 ?_
  refine bind_of q3 ?_
  refine (if_pos rfl).trans ?_
  refine zjn_of ?_
  by_cases hkk : kk = nI 0
  · refine (if_pos hkk).trans ?_
    refine bind_of (q4 hkk) ?_
    exact if_pos ((lgc_eq _ _).mpr rfl)
  · exact if_neg hkk
theorem law_2 {i fuel : Nat} (hNN : 54400 < N) (hL : L ≤ 3072) (hi : i + 6 ≤ L) (hI : InvL b0 M0 h j) (hk : xs i &&& 31 = nI 2) : ∃ hB, f_L_law_l23 N L xs b0 (b0 + 395) (b0 + 413) (fuel + 1) (nI i) h = f_L_law_l23 N L xs b0 (b0 + 395) (b0 + 413) fuel (nI i + (6 : Int32)) hB ∧ InvL b0 M0 hB (j + 1) := by
  have hx : ldS L xs (nI i) = some (xs i) := ld_S (by omega) hL
  have hl : ∀ a, a < 6 → ldS L xs (nI i + nI a) = some (xs (i + a)) := fun a ha => by rw [nadd]; exact ld_S (by omega) hL
  have hc : ¬ (nI L - (6 : Int32) < nI i) := fun h9 => by have := (law_cond hL (by omega)).mp h9; omega
  have hne : ∀ c, c < 2 → ¬ xs i &&& 31 = nI c := fun c hc9 h9 => by rw [hk, neq (by omega) (by omega)] at h9; omega
  obtain ⟨⟨s, th, hW, hM1⟩, ho, hs1, hn1⟩ := id hI
  obtain ⟨d, K, t, ⟨q, hd, hK, ht⟩, ea, z, B⟩ := s
  obtain ⟨r, hA, hB, q1, q2, q5⟩ := L_N hW hM1 ho hs1 hn1 (PR_error (N := N) hW)
  refine ⟨hB, ?_, q5⟩
  rw [f_L_law_l23]
  refine (if_neg hc).trans ?_
  refine bind_of hx ?_
  refine zjn_of ?_
  refine (if_neg (hne 0 (by omega))).trans ?_
  refine (if_neg (hne 1 (by omega))).trans ?_
  refine (if_pos hk).trans ?_
  refine bind_of q1 ?_
  refine bind_of q2 ?_
  exact if_pos rfl
theorem law_3 {i fuel : Nat} (hNN : 54400 < N) (hL : L ≤ 3072) (hi : i + 6 ≤ L) (hI : InvL b0 M0 h j) (hk : xs i &&& 31 = nI 3) : ∃ hB, f_L_law_l23 N L xs b0 (b0 + 395) (b0 + 413) (fuel + 1) (nI i) h = f_L_law_l23 N L xs b0 (b0 + 395) (b0 + 413) fuel (nI i + (6 : Int32)) hB ∧ InvL b0 M0 hB (j + 1) := by
  have hx : ldS L xs (nI i) = some (xs i) := ld_S (by omega) hL
  have hl : ∀ a, a < 6 → ldS L xs (nI i + nI a) = some (xs (i + a)) := fun a ha => by rw [nadd]; exact ld_S (by omega) hL
  have hc : ¬ (nI L - (6 : Int32) < nI i) := fun h9 => by have := (law_cond hL (by omega)).mp h9; omega
  have hne : ∀ c, c < 3 → ¬ xs i &&& 31 = nI c := fun c hc9 h9 => by rw [hk, neq (by omega) (by omega)] at h9; omega
  obtain ⟨kk, hA, b, hB, q1, q2, q3, q4, q5⟩ := L_state (N := N) (xs := xs) (i := i) hNN hI
  refine ⟨hB, ?_, q5⟩
  rw [f_L_law_l23]
  refine (if_neg hc).trans ?_
  refine bind_of hx ?_
  refine zjn_of ?_
  refine (if_neg (hne 0 (by omega))).trans ?_
  refine (if_neg (hne 1 (by omega))).trans ?_
  refine (if_neg (hne 2 (by omega))).trans ?_
  refine (if_pos hk).trans ?_
  refine bind_of (hl 1 (by omega)) ?_
  refine bind_of q1 ?_
  refine bind_of (hl 1 (by omega)) ?_
  refine bind_of q2 ?_
  refine bind_of q3 ?_
  refine (if_pos rfl).trans ?_
  refine zjn_of ?_
  by_cases hkk : kk = nI 0
  · refine (if_pos hkk).trans ?_
    refine bind_of (q4 hkk) ?_
    exact if_pos ((lgc_eq _ _).mpr rfl)
  · exact if_neg hkk
theorem law_4 {i fuel : Nat} (hNN : 54400 < N) (hL : L ≤ 3072) (hi : i + 6 ≤ L) (hI : InvL b0 M0 h j) (hk : xs i &&& 31 = nI 4) : ∃ hB, f_L_law_l23 N L xs b0 (b0 + 395) (b0 + 413) (fuel + 1) (nI i) h = f_L_law_l23 N L xs b0 (b0 + 395) (b0 + 413) fuel (nI i + (6 : Int32)) hB ∧ InvL b0 M0 hB (j + 1) := by
  have hx : ldS L xs (nI i) = some (xs i) := ld_S (by omega) hL
  have hl : ∀ a, a < 6 → ldS L xs (nI i + nI a) = some (xs (i + a)) := fun a ha => by rw [nadd]; exact ld_S (by omega) hL
  have hc : ¬ (nI L - (6 : Int32) < nI i) := fun h9 => by have := (law_cond hL (by omega)).mp h9; omega
  have hne : ∀ c, c < 4 → ¬ xs i &&& 31 = nI c := fun c hc9 h9 => by rw [hk, neq (by omega) (by omega)] at h9; omega
  obtain ⟨kk, hA, b, hB, q1, q2, q3, q4, q5⟩ := L_player (N := N) (xs := xs) (i := i) hNN hI
  refine ⟨hB, ?_, q5⟩
  rw [f_L_law_l23]
  refine (if_neg hc).trans ?_
  refine bind_of hx ?_
  refine zjn_of ?_
  refine (if_neg (hne 0 (by omega))).trans ?_
  refine (if_neg (hne 1 (by omega))).trans ?_
  refine (if_neg (hne 2 (by omega))).trans ?_
  refine (if_neg (hne 3 (by omega))).trans ?_
  refine (if_pos hk).trans ?_
  refine bind_of (hl 1 (by omega)) ?_
  refine bind_of (hl 2 (by omega)) ?_
  refine bind_of q1 ?_
  refine bind_of (hl 1 (by omega)) ?_
  refine bind_of (hl 2 (by omega)) ?_
  refine bind_of q2 ?_
  refine bind_of q3 ?_
  refine (if_pos rfl).trans ?_
  refine zjn_of ?_
  by_cases hkk : kk = nI 0
  · refine (if_pos hkk).trans ?_
    refine bind_of (q4 hkk) ?_
    exact if_pos ((lgc_eq _ _).mpr rfl)
  · exact if_neg hkk
theorem law_5 {i fuel : Nat} (hNN : 54400 < N) (hL : L ≤ 3072) (hi : i + 6 ≤ L) (hI : InvL b0 M0 h j) (hk : xs i &&& 31 = nI 5) : ∃ hB, f_L_law_l23 N L xs b0 (b0 + 395) (b0 + 413) (fuel + 1) (nI i) h = f_L_law_l23 N L xs b0 (b0 + 395) (b0 + 413) fuel (nI i + (6 : Int32)) hB ∧ InvL b0 M0 hB (j + 1) := by
  have hx : ldS L xs (nI i) = some (xs i) := ld_S (by omega) hL
  have hl : ∀ a, a < 6 → ldS L xs (nI i + nI a) = some (xs (i + a)) := fun a ha => by rw [nadd]; exact ld_S (by omega) hL
  have hc : ¬ (nI L - (6 : Int32) < nI i) := fun h9 => by have := (law_cond hL (by omega)).mp h9; omega
  have hne : ∀ c, c < 5 → ¬ xs i &&& 31 = nI c := fun c hc9 h9 => by rw [hk, neq (by omega) (by omega)] at h9; omega
  obtain ⟨kk, hA, b, hB, q1, q2, q3, q4, q5⟩ := L_card (N := N) (xs := xs) (i := i) hNN hI
  refine ⟨hB, ?_, q5⟩
  rw [f_L_law_l23]
  refine (if_neg hc).trans ?_
  refine bind_of hx ?_
  refine zjn_of ?_
  refine (if_neg (hne 0 (by omega))).trans ?_
  refine (if_neg (hne 1 (by omega))).trans ?_
  refine (if_neg (hne 2 (by omega))).trans ?_
  refine (if_neg (hne 3 (by omega))).trans ?_
  refine (if_neg (hne 4 (by omega))).trans ?_
  refine (if_pos hk).trans ?_
  refine bind_of (hl 1 (by omega)) ?_
  refine bind_of (hl 2 (by omega)) ?_
  refine bind_of (hl 3 (by omega)) ?_
  refine bind_of q1 ?_
  refine bind_of (hl 1 (by omega)) ?_
  refine bind_of (hl 2 (by omega)) ?_
  refine bind_of (hl 3 (by omega)) ?_
  refine bind_of q2 ?_
  refine bind_of q3 ?_
  refine (if_pos rfl).trans ?_
  refine zjn_of ?_
  by_cases hkk : kk = nI 0
  · refine (if_pos hkk).trans ?_
    refine bind_of (q4 hkk) ?_
    exact if_pos ((lgc_eq _ _).mpr rfl)
  · exact if_neg hkk
theorem law_6 {i fuel : Nat} (hNN : 54400 < N) (hL : L ≤ 3072) (hi : i + 6 ≤ L) (hI : InvL b0 M0 h j) (hk : xs i &&& 31 = nI 6) : ∃ hB, f_L_law_l23 N L xs b0 (b0 + 395) (b0 + 413) (fuel + 1) (nI i) h = f_L_law_l23 N L xs b0 (b0 + 395) (b0 + 413) fuel (nI i + (6 : Int32)) hB ∧ InvL b0 M0 hB (j + 1) := by
  have hx : ldS L xs (nI i) = some (xs i) := ld_S (by omega) hL
  have hl : ∀ a, a < 6 → ldS L xs (nI i + nI a) = some (xs (i + a)) := fun a ha => by rw [nadd]; exact ld_S (by omega) hL
  have hc : ¬ (nI L - (6 : Int32) < nI i) := fun h9 => by have := (law_cond hL (by omega)).mp h9; omega
  have hne : ∀ c, c < 6 → ¬ xs i &&& 31 = nI c := fun c hc9 h9 => by rw [hk, neq (by omega) (by omega)] at h9; omega
  obtain ⟨kk, hA, b, hB, q1, q2, q3, q4, q5⟩ := L_bid (N := N) (xs := xs) (i := i) hNN hI
  refine ⟨hB, ?_, q5⟩
  rw [f_L_law_l23]
  refine (if_neg hc).trans ?_
  refine bind_of hx ?_
  refine zjn_of ?_
  refine (if_neg (hne 0 (by omega))).trans ?_
  refine (if_neg (hne 1 (by omega))).trans ?_
  refine (if_neg (hne 2 (by omega))).trans ?_
  refine (if_neg (hne 3 (by omega))).trans ?_
  refine (if_neg (hne 4 (by omega))).trans ?_
  refine (if_neg (hne 5 (by omega))).trans ?_
  refine (if_pos hk).trans ?_
  refine bind_of (hl 1 (by omega)) ?_
  refine bind_of (hl 2 (by omega)) ?_
  refine bind_of q1 ?_
  refine bind_of (hl 1 (by omega)) ?_
  refine bind_of (hl 2 (by omega)) ?_
  refine bind_of q2 ?_
  refine bind_of q3 ?_
  refine (if_pos rfl).trans ?_
  refine zjn_of ?_
  by_cases hkk : kk = nI 0
  · refine (if_pos hkk).trans ?_
    refine bind_of (q4 hkk) ?_
    exact if_pos ((lgc_eq _ _).mpr rfl)
  · exact if_neg hkk
theorem law_7 {i fuel : Nat} (hNN : 54400 < N) (hL : L ≤ 3072) (hi : i + 6 ≤ L) (hI : InvL b0 M0 h j) (hk : xs i &&& 31 = nI 7) : ∃ hB, f_L_law_l23 N L xs b0 (b0 + 395) (b0 + 413) (fuel + 1) (nI i) h = f_L_law_l23 N L xs b0 (b0 + 395) (b0 + 413) fuel (nI i + (6 : Int32)) hB ∧ InvL b0 M0 hB (j + 1) := by
  have hx : ldS L xs (nI i) = some (xs i) := ld_S (by omega) hL
  have hl : ∀ a, a < 6 → ldS L xs (nI i + nI a) = some (xs (i + a)) := fun a ha => by rw [nadd]; exact ld_S (by omega) hL
  have hc : ¬ (nI L - (6 : Int32) < nI i) := fun h9 => by have := (law_cond hL (by omega)).mp h9; omega
  have hne : ∀ c, c < 7 → ¬ xs i &&& 31 = nI c := fun c hc9 h9 => by rw [hk, neq (by omega) (by omega)] at h9; omega
  obtain ⟨⟨s, th, hW, hM1⟩, ho, hs1, hn1⟩ := id hI
  obtain ⟨d, K, t, ⟨q, hd, hK, ht⟩, ea, z, B⟩ := s
  obtain ⟨r, hA, hB, q1, q2, q5⟩ := L_N hW hM1 ho hs1 hn1 (PR_product (N := N) (by omega) hW)
  refine ⟨hB, ?_, q5⟩
  rw [f_L_law_l23]
  refine (if_neg hc).trans ?_
  refine bind_of hx ?_
  refine zjn_of ?_
  refine (if_neg (hne 0 (by omega))).trans ?_
  refine (if_neg (hne 1 (by omega))).trans ?_
  refine (if_neg (hne 2 (by omega))).trans ?_
  refine (if_neg (hne 3 (by omega))).trans ?_
  refine (if_neg (hne 4 (by omega))).trans ?_
  refine (if_neg (hne 5 (by omega))).trans ?_
  refine (if_neg (hne 6 (by omega))).trans ?_
  refine (if_pos hk).trans ?_
  refine bind_of q1 ?_
  refine bind_of q2 ?_
  exact if_pos rfl
theorem law_8 {i fuel : Nat} (hNN : 54400 < N) (hL : L ≤ 3072) (hi : i + 6 ≤ L) (hI : InvL b0 M0 h j) (hk : xs i &&& 31 = nI 8) : ∃ hB, f_L_law_l23 N L xs b0 (b0 + 395) (b0 + 413) (fuel + 1) (nI i) h = f_L_law_l23 N L xs b0 (b0 + 395) (b0 + 413) fuel (nI i + (6 : Int32)) hB ∧ InvL b0 M0 hB (j + 1) := by
  have hx : ldS L xs (nI i) = some (xs i) := ld_S (by omega) hL
  have hl : ∀ a, a < 6 → ldS L xs (nI i + nI a) = some (xs (i + a)) := fun a ha => by rw [nadd]; exact ld_S (by omega) hL
  have hc : ¬ (nI L - (6 : Int32) < nI i) := fun h9 => by have := (law_cond hL (by omega)).mp h9; omega
  have hne : ∀ c, c < 8 → ¬ xs i &&& 31 = nI c := fun c hc9 h9 => by rw [hk, neq (by omega) (by omega)] at h9; omega
  obtain ⟨kk, hA, b, hB, q1, q2, q3, q4, q5⟩ := L_productOf (N := N) (xs := xs) (i := i) hNN hI
  refine ⟨hB, ?_, q5⟩
  rw [f_L_law_l23]
  refine (if_neg hc).trans ?_
  refine bind_of hx ?_
  refine zjn_of ?_
  refine (if_neg (hne 0 (by omega))).trans ?_
  refine (if_neg (hne 1 (by omega))).trans ?_
  refine (if_neg (hne 2 (by omega))).trans ?_
  refine (if_neg (hne 3 (by omega))).trans ?_
  refine (if_neg (hne 4 (by omega))).trans ?_
  refine (if_neg (hne 5 (by omega))).trans ?_
  refine (if_neg (hne 6 (by omega))).trans ?_
  refine (if_neg (hne 7 (by omega))).trans ?_
  refine (if_pos hk).trans ?_
  refine bind_of (hl 1 (by omega)) ?_
  refine bind_of (hl 2 (by omega)) ?_
  refine bind_of q1 ?_
  refine bind_of (hl 1 (by omega)) ?_
  refine bind_of (hl 2 (by omega)) ?_
  refine bind_of q2 ?_
  refine bind_of q3 ?_
  refine (if_pos rfl).trans ?_
  refine zjn_of ?_
  by_cases hkk : kk = nI 0
  · refine (if_pos hkk).trans ?_
    refine bind_of (q4 hkk) ?_
    exact if_pos ((lgc_eq _ _).mpr rfl)
  · exact if_neg hkk
theorem law_9 {i fuel : Nat} (hNN : 54400 < N) (hL : L ≤ 3072) (hi : i + 6 ≤ L) (hI : InvL b0 M0 h j) (hk : xs i &&& 31 = nI 9) : ∃ hB, f_L_law_l23 N L xs b0 (b0 + 395) (b0 + 413) (fuel + 1) (nI i) h = f_L_law_l23 N L xs b0 (b0 + 395) (b0 + 413) fuel (nI i + (6 : Int32)) hB ∧ InvL b0 M0 hB (j + 1) := by
  have hx : ldS L xs (nI i) = some (xs i) := ld_S (by omega) hL
  have hl : ∀ a, a < 6 → ldS L xs (nI i + nI a) = some (xs (i + a)) := fun a ha => by rw [nadd]; exact ld_S (by omega) hL
  have hc : ¬ (nI L - (6 : Int32) < nI i) := fun h9 => by have := (law_cond hL (by omega)).mp h9; omega
  have hne : ∀ c, c < 9 → ¬ xs i &&& 31 = nI c := fun c hc9 h9 => by rw [hk, neq (by omega) (by omega)] at h9; omega
  obtain ⟨kk, hA, b, hB, q1, q2, q3, q4, q5⟩ := L_multiply (N := N) (xs := xs) (i := i) hNN hI
  refine ⟨hB, ?_, q5⟩
  rw [f_L_law_l23]
  refine (if_neg hc).trans ?_
  refine bind_of hx ?_
  refine zjn_of ?_
  refine (if_neg (hne 0 (by omega))).trans ?_
  refine (if_neg (hne 1 (by omega))).trans ?_
  refine (if_neg (hne 2 (by omega))).trans ?_
  refine (if_neg (hne 3 (by omega))).trans ?_
  refine (if_neg (hne 4 (by omega))).trans ?_
  refine (if_neg (hne 5 (by omega))).trans ?_
  refine (if_neg (hne 6 (by omega))).trans ?_
  refine (if_neg (hne 7 (by omega))).trans ?_
  refine (if_neg (hne 8 (by omega))).trans ?_
  refine (if_pos hk).trans ?_
  refine bind_of (hl 1 (by omega)) ?_
  refine bind_of (hl 2 (by omega)) ?_
  refine bind_of q1 ?_
  refine bind_of (hl 1 (by omega)) ?_
  refine bind_of (hl 2 (by omega)) ?_
  refine bind_of q2 ?_
  refine bind_of q3 ?_
  refine (if_pos rfl).trans ?_
  refine zjn_of ?_
  by_cases hkk : kk = nI 0
  · refine (if_pos hkk).trans ?_
    refine bind_of (q4 hkk) ?_
    exact if_pos ((lgc_eq _ _).mpr rfl)
  · exact if_neg hkk
theorem law_10 {i fuel : Nat} (hNN : 54400 < N) (hL : L ≤ 3072) (hi : i + 6 ≤ L) (hI : InvL b0 M0 h j) (hk : xs i &&& 31 = nI 10) : ∃ hB, f_L_law_l23 N L xs b0 (b0 + 395) (b0 + 413) (fuel + 1) (nI i) h = f_L_law_l23 N L xs b0 (b0 + 395) (b0 + 413) fuel (nI i + (6 : Int32)) hB ∧ InvL b0 M0 hB (j + 1) := by
  have hx : ldS L xs (nI i) = some (xs i) := ld_S (by omega) hL
  have hl : ∀ a, a < 6 → ldS L xs (nI i + nI a) = some (xs (i + a)) := fun a ha => by rw [nadd]; exact ld_S (by omega) hL
  have hc : ¬ (nI L - (6 : Int32) < nI i) := fun h9 => by have := (law_cond hL (by omega)).mp h9; omega
  have hne : ∀ c, c < 10 → ¬ xs i &&& 31 = nI c := fun c hc9 h9 => by rw [hk, neq (by omega) (by omega)] at h9; omega
  obtain ⟨kk, hA, b, hB, q1, q2, q3, q4, q5⟩ := L_inverse (N := N) (xs := xs) (i := i) hNN hI
  refine ⟨hB, ?_, q5⟩
  rw [f_L_law_l23]
  refine (if_neg hc).trans ?_
  refine bind_of hx ?_
  refine zjn_of ?_
  refine (if_neg (hne 0 (by omega))).trans ?_
  refine (if_neg (hne 1 (by omega))).trans ?_
  refine (if_neg (hne 2 (by omega))).trans ?_
  refine (if_neg (hne 3 (by omega))).trans ?_
  refine (if_neg (hne 4 (by omega))).trans ?_
  refine (if_neg (hne 5 (by omega))).trans ?_
  refine (if_neg (hne 6 (by omega))).trans ?_
  refine (if_neg (hne 7 (by omega))).trans ?_
  refine (if_neg (hne 8 (by omega))).trans ?_
  refine (if_neg (hne 9 (by omega))).trans ?_
  refine (if_pos hk).trans ?_
  refine bind_of (hl 1 (by omega)) ?_
  refine bind_of q1 ?_
  refine bind_of (hl 1 (by omega)) ?_
  refine bind_of q2 ?_
  refine bind_of q3 ?_
  refine (if_pos rfl).trans ?_
  refine zjn_of ?_
  by_cases hkk : kk = nI 0
  · refine (if_pos hkk).trans ?_
    refine bind_of (q4 hkk) ?_
    exact if_pos ((lgc_eq _ _).mpr rfl)
  · exact if_neg hkk
theorem law_11 {i fuel : Nat} (hNN : 54400 < N) (hL : L ≤ 3072) (hi : i + 6 ≤ L) (hI : InvL b0 M0 h j) (hk : xs i &&& 31 = nI 11) : ∃ hB, f_L_law_l23 N L xs b0 (b0 + 395) (b0 + 413) (fuel + 1) (nI i) h = f_L_law_l23 N L xs b0 (b0 + 395) (b0 + 413) fuel (nI i + (6 : Int32)) hB ∧ InvL b0 M0 hB (j + 1) := by
  have hx : ldS L xs (nI i) = some (xs i) := ld_S (by omega) hL
  have hl : ∀ a, a < 6 → ldS L xs (nI i + nI a) = some (xs (i + a)) := fun a ha => by rw [nadd]; exact ld_S (by omega) hL
  have hc : ¬ (nI L - (6 : Int32) < nI i) := fun h9 => by have := (law_cond hL (by omega)).mp h9; omega
  have hne : ∀ c, c < 11 → ¬ xs i &&& 31 = nI c := fun c hc9 h9 => by rw [hk, neq (by omega) (by omega)] at h9; omega
  obtain ⟨kk, hA, b, hB, q1, q2, q3, q4, q5⟩ := L_order (N := N) (xs := xs) (i := i) hNN hI
  refine ⟨hB, ?_, q5⟩
  rw [f_L_law_l23]
  refine (if_neg hc).trans ?_
  refine bind_of hx ?_
  refine zjn_of ?_
  refine (if_neg (hne 0 (by omega))).trans ?_
  refine (if_neg (hne 1 (by omega))).trans ?_
  refine (if_neg (hne 2 (by omega))).trans ?_
  refine (if_neg (hne 3 (by omega))).trans ?_
  refine (if_neg (hne 4 (by omega))).trans ?_
  refine (if_neg (hne 5 (by omega))).trans ?_
  refine (if_neg (hne 6 (by omega))).trans ?_
  refine (if_neg (hne 7 (by omega))).trans ?_
  refine (if_neg (hne 8 (by omega))).trans ?_
  refine (if_neg (hne 9 (by omega))).trans ?_
  refine (if_neg (hne 10 (by omega))).trans ?_
  refine (if_pos hk).trans ?_
  refine bind_of (hl 1 (by omega)) ?_
  refine bind_of q1 ?_
  refine bind_of (hl 1 (by omega)) ?_
  refine bind_of q2 ?_
  refine bind_of q3 ?_
  refine (if_pos rfl).trans ?_
  refine zjn_of ?_
  by_cases hkk : kk = nI 0
  · refine (if_pos hkk).trans ?_
    refine bind_of (q4 hkk) ?_
    exact if_pos ((lgc_eq _ _).mpr rfl)
  · exact if_neg hkk
theorem law_12 {i fuel : Nat} (hNN : 54400 < N) (hL : L ≤ 3072) (hi : i + 6 ≤ L) (hI : InvL b0 M0 h j) (hk : xs i &&& 31 = nI 12) : ∃ hB, f_L_law_l23 N L xs b0 (b0 + 395) (b0 + 413) (fuel + 1) (nI i) h = f_L_law_l23 N L xs b0 (b0 + 395) (b0 + 413) fuel (nI i + (6 : Int32)) hB ∧ InvL b0 M0 hB (j + 1) := by
  have hx : ldS L xs (nI i) = some (xs i) := ld_S (by omega) hL
  have hl : ∀ a, a < 6 → ldS L xs (nI i + nI a) = some (xs (i + a)) := fun a ha => by rw [nadd]; exact ld_S (by omega) hL
  have hc : ¬ (nI L - (6 : Int32) < nI i) := fun h9 => by have := (law_cond hL (by omega)).mp h9; omega
  have hne : ∀ c, c < 12 → ¬ xs i &&& 31 = nI c := fun c hc9 h9 => by rw [hk, neq (by omega) (by omega)] at h9; omega
  obtain ⟨kk, hA, b, hB, q1, q2, q3, q4, q5⟩ := L_reach (N := N) (xs := xs) (i := i) hNN hI
  refine ⟨hB, ?_, q5⟩
  rw [f_L_law_l23]
  refine (if_neg hc).trans ?_
  refine bind_of hx ?_
  refine zjn_of ?_
  refine (if_neg (hne 0 (by omega))).trans ?_
  refine (if_neg (hne 1 (by omega))).trans ?_
  refine (if_neg (hne 2 (by omega))).trans ?_
  refine (if_neg (hne 3 (by omega))).trans ?_
  refine (if_neg (hne 4 (by omega))).trans ?_
  refine (if_neg (hne 5 (by omega))).trans ?_
  refine (if_neg (hne 6 (by omega))).trans ?_
  refine (if_neg (hne 7 (by omega))).trans ?_
  refine (if_neg (hne 8 (by omega))).trans ?_
  refine (if_neg (hne 9 (by omega))).trans ?_
  refine (if_neg (hne 10 (by omega))).trans ?_
  refine (if_neg (hne 11 (by omega))).trans ?_
  refine (if_pos hk).trans ?_
  refine bind_of (hl 1 (by omega)) ?_
  refine bind_of q1 ?_
  refine bind_of (hl 1 (by omega)) ?_
  refine bind_of q2 ?_
  refine bind_of q3 ?_
  refine (if_pos rfl).trans ?_
  refine zjn_of ?_
  by_cases hkk : kk = nI 0
  · refine (if_pos hkk).trans ?_
    refine bind_of (q4 hkk) ?_
    exact if_pos ((lgc_eq _ _).mpr rfl)
  · exact if_neg hkk
theorem law_13 {i fuel : Nat} (hNN : 54400 < N) (hL : L ≤ 3072) (hi : i + 6 ≤ L) (hI : InvL b0 M0 h j) (hk : xs i &&& 31 = nI 13) : ∃ hB, f_L_law_l23 N L xs b0 (b0 + 395) (b0 + 413) (fuel + 1) (nI i) h = f_L_law_l23 N L xs b0 (b0 + 395) (b0 + 413) fuel (nI i + (6 : Int32)) hB ∧ InvL b0 M0 hB (j + 1) := by
  have hx : ldS L xs (nI i) = some (xs i) := ld_S (by omega) hL
  have hl : ∀ a, a < 6 → ldS L xs (nI i + nI a) = some (xs (i + a)) := fun a ha => by rw [nadd]; exact ld_S (by omega) hL
  have hc : ¬ (nI L - (6 : Int32) < nI i) := fun h9 => by have := (law_cond hL (by omega)).mp h9; omega
  have hne : ∀ c, c < 13 → ¬ xs i &&& 31 = nI c := fun c hc9 h9 => by rw [hk, neq (by omega) (by omega)] at h9; omega
  obtain ⟨kk, hA, b, hB, q1, q2, q3, q4, q5⟩ := L_reaches (N := N) (xs := xs) (i := i) hNN hI
  refine ⟨hB, ?_, q5⟩
  rw [f_L_law_l23]
  refine (if_neg hc).trans ?_
  refine bind_of hx ?_
  refine zjn_of ?_
  refine (if_neg (hne 0 (by omega))).trans ?_
  refine (if_neg (hne 1 (by omega))).trans ?_
  refine (if_neg (hne 2 (by omega))).trans ?_
  refine (if_neg (hne 3 (by omega))).trans ?_
  refine (if_neg (hne 4 (by omega))).trans ?_
  refine (if_neg (hne 5 (by omega))).trans ?_
  refine (if_neg (hne 6 (by omega))).trans ?_
  refine (if_neg (hne 7 (by omega))).trans ?_
  refine (if_neg (hne 8 (by omega))).trans ?_
  refine (if_neg (hne 9 (by omega))).trans ?_
  refine (if_neg (hne 10 (by omega))).trans ?_
  refine (if_neg (hne 11 (by omega))).trans ?_
  refine (if_neg (hne 12 (by omega))).trans ?_
  refine (if_pos hk).trans ?_
  refine bind_of (hl 1 (by omega)) ?_
  refine bind_of (hl 2 (by omega)) ?_
  refine bind_of q1 ?_
  refine bind_of (hl 1 (by omega)) ?_
  refine bind_of (hl 2 (by omega)) ?_
  refine bind_of q2 ?_
  refine bind_of q3 ?_
  refine (if_pos rfl).trans ?_
  refine zjn_of ?_
  by_cases hkk : kk = nI 0
  · refine (if_pos hkk).trans ?_
    refine bind_of (q4 hkk) ?_
    refine zjn_of ?_
    by_cases hb : b = 0
    · refine (if_pos hb).trans ?_
      exact if_pos ((lgc_eq _ _).mpr (if_pos hb))
    · refine (if_neg hb).trans ?_
      exact if_pos ((lgc_eq _ _).mpr (if_neg hb))
  · exact if_neg hkk
theorem law_14 {i fuel : Nat} (hNN : 54400 < N) (hL : L ≤ 3072) (hi : i + 6 ≤ L) (hI : InvL b0 M0 h j) (hk : xs i &&& 31 = nI 14) : ∃ hB, f_L_law_l23 N L xs b0 (b0 + 395) (b0 + 413) (fuel + 1) (nI i) h = f_L_law_l23 N L xs b0 (b0 + 395) (b0 + 413) fuel (nI i + (6 : Int32)) hB ∧ InvL b0 M0 hB (j + 1) := by
  have hx : ldS L xs (nI i) = some (xs i) := ld_S (by omega) hL
  have hl : ∀ a, a < 6 → ldS L xs (nI i + nI a) = some (xs (i + a)) := fun a ha => by rw [nadd]; exact ld_S (by omega) hL
  have hc : ¬ (nI L - (6 : Int32) < nI i) := fun h9 => by have := (law_cond hL (by omega)).mp h9; omega
  have hne : ∀ c, c < 14 → ¬ xs i &&& 31 = nI c := fun c hc9 h9 => by rw [hk, neq (by omega) (by omega)] at h9; omega
  obtain ⟨kk, hA, b, hB, q1, q2, q3, q4, q5⟩ := L_generated (N := N) (xs := xs) (i := i) hNN hI
  refine ⟨hB, ?_, q5⟩
  rw [f_L_law_l23]
  refine (if_neg hc).trans ?_
  refine bind_of hx ?_
  refine zjn_of ?_
  refine (if_neg (hne 0 (by omega))).trans ?_
  refine (if_neg (hne 1 (by omega))).trans ?_
  refine (if_neg (hne 2 (by omega))).trans ?_
  refine (if_neg (hne 3 (by omega))).trans ?_
  refine (if_neg (hne 4 (by omega))).trans ?_
  refine (if_neg (hne 5 (by omega))).trans ?_
  refine (if_neg (hne 6 (by omega))).trans ?_
  refine (if_neg (hne 7 (by omega))).trans ?_
  refine (if_neg (hne 8 (by omega))).trans ?_
  refine (if_neg (hne 9 (by omega))).trans ?_
  refine (if_neg (hne 10 (by omega))).trans ?_
  refine (if_neg (hne 11 (by omega))).trans ?_
  refine (if_neg (hne 12 (by omega))).trans ?_
  refine (if_neg (hne 13 (by omega))).trans ?_
  refine (if_pos hk).trans ?_
  refine bind_of (hl 1 (by omega)) ?_
  refine bind_of q1 ?_
  refine bind_of (hl 1 (by omega)) ?_
  refine bind_of q2 ?_
  refine bind_of q3 ?_
  refine (if_pos rfl).trans ?_
  refine zjn_of ?_
  by_cases hkk : kk = nI 0
  · refine (if_pos hkk).trans ?_
    refine bind_of (q4 hkk) ?_
    exact if_pos ((lgc_eq _ _).mpr rfl)
  · exact if_neg hkk
theorem law_15 {i fuel : Nat} (hNN : 54400 < N) (hL : L ≤ 3072) (hi : i + 6 ≤ L) (hI : InvL b0 M0 h j) (hk : xs i &&& 31 = nI 15) : ∃ hB, f_L_law_l23 N L xs b0 (b0 + 395) (b0 + 413) (fuel + 1) (nI i) h = f_L_law_l23 N L xs b0 (b0 + 395) (b0 + 413) fuel (nI i + (6 : Int32)) hB ∧ InvL b0 M0 hB (j + 1) := by
  have hx : ldS L xs (nI i) = some (xs i) := ld_S (by omega) hL
  have hl : ∀ a, a < 6 → ldS L xs (nI i + nI a) = some (xs (i + a)) := fun a ha => by rw [nadd]; exact ld_S (by omega) hL
  have hc : ¬ (nI L - (6 : Int32) < nI i) := fun h9 => by have := (law_cond hL (by omega)).mp h9; omega
  have hne : ∀ c, c < 15 → ¬ xs i &&& 31 = nI c := fun c hc9 h9 => by rw [hk, neq (by omega) (by omega)] at h9; omega
  obtain ⟨kk, hA, b, hB, q1, q2, q3, q4, q5⟩ := L_fewest (N := N) (xs := xs) (i := i) hNN hI
  refine ⟨hB, ?_, q5⟩
  rw [f_L_law_l23]
  refine (if_neg hc).trans ?_
  refine bind_of hx ?_
  refine zjn_of ?_
  refine (if_neg (hne 0 (by omega))).trans ?_
  refine (if_neg (hne 1 (by omega))).trans ?_
  refine (if_neg (hne 2 (by omega))).trans ?_
  refine (if_neg (hne 3 (by omega))).trans ?_
  refine (if_neg (hne 4 (by omega))).trans ?_
  refine (if_neg (hne 5 (by omega))).trans ?_
  refine (if_neg (hne 6 (by omega))).trans ?_
  refine (if_neg (hne 7 (by omega))).trans ?_
  refine (if_neg (hne 8 (by omega))).trans ?_
  refine (if_neg (hne 9 (by omega))).trans ?_
  refine (if_neg (hne 10 (by omega))).trans ?_
  refine (if_neg (hne 11 (by omega))).trans ?_
  refine (if_neg (hne 12 (by omega))).trans ?_
  refine (if_neg (hne 13 (by omega))).trans ?_
  refine (if_neg (hne 14 (by omega))).trans ?_
  refine (if_pos hk).trans ?_
  refine bind_of (hl 1 (by omega)) ?_
  refine bind_of q1 ?_
  refine bind_of (hl 1 (by omega)) ?_
  refine bind_of q2 ?_
  refine bind_of q3 ?_
  refine (if_pos rfl).trans ?_
  refine zjn_of ?_
  by_cases hkk : kk = nI 0
  · refine (if_pos hkk).trans ?_
    refine bind_of (q4 hkk) ?_
    exact if_pos ((lgc_eq _ _).mpr rfl)
  · exact if_neg hkk
theorem law_16 {i fuel : Nat} (hNN : 54400 < N) (hL : L ≤ 3072) (hi : i + 6 ≤ L) (hI : InvL b0 M0 h j) (hk : xs i &&& 31 = nI 16) : ∃ hB, f_L_law_l23 N L xs b0 (b0 + 395) (b0 + 413) (fuel + 1) (nI i) h = f_L_law_l23 N L xs b0 (b0 + 395) (b0 + 413) fuel (nI i + (6 : Int32)) hB ∧ InvL b0 M0 hB (j + 1) := by
  have hx : ldS L xs (nI i) = some (xs i) := ld_S (by omega) hL
  have hl : ∀ a, a < 6 → ldS L xs (nI i + nI a) = some (xs (i + a)) := fun a ha => by rw [nadd]; exact ld_S (by omega) hL
  have hc : ¬ (nI L - (6 : Int32) < nI i) := fun h9 => by have := (law_cond hL (by omega)).mp h9; omega
  have hne : ∀ c, c < 16 → ¬ xs i &&& 31 = nI c := fun c hc9 h9 => by rw [hk, neq (by omega) (by omega)] at h9; omega
  obtain ⟨kk, hA, b, hB, q1, q2, q3, q4, q5⟩ := L_cheapest (N := N) (xs := xs) (i := i) hNN hI
  refine ⟨hB, ?_, q5⟩
  rw [f_L_law_l23]
  refine (if_neg hc).trans ?_
  refine bind_of hx ?_
  refine zjn_of ?_
  refine (if_neg (hne 0 (by omega))).trans ?_
  refine (if_neg (hne 1 (by omega))).trans ?_
  refine (if_neg (hne 2 (by omega))).trans ?_
  refine (if_neg (hne 3 (by omega))).trans ?_
  refine (if_neg (hne 4 (by omega))).trans ?_
  refine (if_neg (hne 5 (by omega))).trans ?_
  refine (if_neg (hne 6 (by omega))).trans ?_
  refine (if_neg (hne 7 (by omega))).trans ?_
  refine (if_neg (hne 8 (by omega))).trans ?_
  refine (if_neg (hne 9 (by omega))).trans ?_
  refine (if_neg (hne 10 (by omega))).trans ?_
  refine (if_neg (hne 11 (by omega))).trans ?_
  refine (if_neg (hne 12 (by omega))).trans ?_
  refine (if_neg (hne 13 (by omega))).trans ?_
  refine (if_neg (hne 14 (by omega))).trans ?_
  refine (if_neg (hne 15 (by omega))).trans ?_
  refine (if_pos hk).trans ?_
  refine bind_of (hl 1 (by omega)) ?_
  refine bind_of q1 ?_
  refine bind_of (hl 1 (by omega)) ?_
  refine bind_of q2 ?_
  refine bind_of q3 ?_
  refine (if_pos rfl).trans ?_
  refine zjn_of ?_
  by_cases hkk : kk = nI 0
  · refine (if_pos hkk).trans ?_
    refine bind_of (q4 hkk) ?_
    exact if_pos ((lgc_eq _ _).mpr rfl)
  · exact if_neg hkk
theorem law_17 {i fuel : Nat} (hNN : 54400 < N) (hL : L ≤ 3072) (hi : i + 6 ≤ L) (hI : InvL b0 M0 h j) (hk : xs i &&& 31 = nI 17) : ∃ hB, f_L_law_l23 N L xs b0 (b0 + 395) (b0 + 413) (fuel + 1) (nI i) h = f_L_law_l23 N L xs b0 (b0 + 395) (b0 + 413) fuel (nI i + (6 : Int32)) hB ∧ InvL b0 M0 hB (j + 1) := by
  have hx : ldS L xs (nI i) = some (xs i) := ld_S (by omega) hL
  have hl : ∀ a, a < 6 → ldS L xs (nI i + nI a) = some (xs (i + a)) := fun a ha => by rw [nadd]; exact ld_S (by omega) hL
  have hc : ¬ (nI L - (6 : Int32) < nI i) := fun h9 => by have := (law_cond hL (by omega)).mp h9; omega
  have hne : ∀ c, c < 17 → ¬ xs i &&& 31 = nI c := fun c hc9 h9 => by rw [hk, neq (by omega) (by omega)] at h9; omega
  obtain ⟨kk, hA, b, hB, q1, q2, q3, q4, q5⟩ := L_opening (N := N) (xs := xs) (i := i) hNN hI
  refine ⟨hB, ?_, q5⟩
  rw [f_L_law_l23]
  refine (if_neg hc).trans ?_
  refine bind_of hx ?_
  refine zjn_of ?_
  refine (if_neg (hne 0 (by omega))).trans ?_
  refine (if_neg (hne 1 (by omega))).trans ?_
  refine (if_neg (hne 2 (by omega))).trans ?_
  refine (if_neg (hne 3 (by omega))).trans ?_
  refine (if_neg (hne 4 (by omega))).trans ?_
  refine (if_neg (hne 5 (by omega))).trans ?_
  refine (if_neg (hne 6 (by omega))).trans ?_
  refine (if_neg (hne 7 (by omega))).trans ?_
  refine (if_neg (hne 8 (by omega))).trans ?_
  refine (if_neg (hne 9 (by omega))).trans ?_
  refine (if_neg (hne 10 (by omega))).trans ?_
  refine (if_neg (hne 11 (by omega))).trans ?_
  refine (if_neg (hne 12 (by omega))).trans ?_
  refine (if_neg (hne 13 (by omega))).trans ?_
  refine (if_neg (hne 14 (by omega))).trans ?_
  refine (if_neg (hne 15 (by omega))).trans ?_
  refine (if_neg (hne 16 (by omega))).trans ?_
  refine (if_pos hk).trans ?_
  refine bind_of (hl 1 (by omega)) ?_
  refine bind_of q1 ?_
  refine bind_of (hl 1 (by omega)) ?_
  refine bind_of q2 ?_
  refine bind_of q3 ?_
  refine (if_pos rfl).trans ?_
  refine zjn_of ?_
  by_cases hkk : kk = nI 0
  · refine (if_pos hkk).trans ?_
    refine bind_of (q4 hkk) ?_
    exact if_pos ((lgc_eq _ _).mpr rfl)
  · exact if_neg hkk
theorem law_18 {i fuel : Nat} (hNN : 54400 < N) (hL : L ≤ 3072) (hi : i + 6 ≤ L) (hI : InvL b0 M0 h j) (hk : xs i &&& 31 = nI 18) : ∃ hB, f_L_law_l23 N L xs b0 (b0 + 395) (b0 + 413) (fuel + 1) (nI i) h = f_L_law_l23 N L xs b0 (b0 + 395) (b0 + 413) fuel (nI i + (6 : Int32)) hB ∧ InvL b0 M0 hB (j + 1) := by
  have hx : ldS L xs (nI i) = some (xs i) := ld_S (by omega) hL
  have hl : ∀ a, a < 6 → ldS L xs (nI i + nI a) = some (xs (i + a)) := fun a ha => by rw [nadd]; exact ld_S (by omega) hL
  have hc : ¬ (nI L - (6 : Int32) < nI i) := fun h9 => by have := (law_cond hL (by omega)).mp h9; omega
  have hne : ∀ c, c < 18 → ¬ xs i &&& 31 = nI c := fun c hc9 h9 => by rw [hk, neq (by omega) (by omega)] at h9; omega
  obtain ⟨kk, hA, b, hB, q1, q2, q3, q4, q5⟩ := L_play (N := N) (xs := xs) (i := i) hNN hI
  refine ⟨hB, ?_, q5⟩
  rw [f_L_law_l23]
  refine (if_neg hc).trans ?_
  refine bind_of hx ?_
  refine zjn_of ?_
  refine (if_neg (hne 0 (by omega))).trans ?_
  refine (if_neg (hne 1 (by omega))).trans ?_
  refine (if_neg (hne 2 (by omega))).trans ?_
  refine (if_neg (hne 3 (by omega))).trans ?_
  refine (if_neg (hne 4 (by omega))).trans ?_
  refine (if_neg (hne 5 (by omega))).trans ?_
  refine (if_neg (hne 6 (by omega))).trans ?_
  refine (if_neg (hne 7 (by omega))).trans ?_
  refine (if_neg (hne 8 (by omega))).trans ?_
  refine (if_neg (hne 9 (by omega))).trans ?_
  refine (if_neg (hne 10 (by omega))).trans ?_
  refine (if_neg (hne 11 (by omega))).trans ?_
  refine (if_neg (hne 12 (by omega))).trans ?_
  refine (if_neg (hne 13 (by omega))).trans ?_
  refine (if_neg (hne 14 (by omega))).trans ?_
  refine (if_neg (hne 15 (by omega))).trans ?_
  refine (if_neg (hne 16 (by omega))).trans ?_
  refine (if_neg (hne 17 (by omega))).trans ?_
  refine (if_pos hk).trans ?_
  refine bind_of (hl 1 (by omega)) ?_
  refine bind_of q1 ?_
  refine bind_of (hl 1 (by omega)) ?_
  refine bind_of q2 ?_
  refine bind_of q3 ?_
  refine (if_pos rfl).trans ?_
  refine zjn_of ?_
  by_cases hkk : kk = nI 0
  · refine (if_pos hkk).trans ?_
    refine bind_of (q4 hkk) ?_
    exact if_pos ((lgc_eq _ _).mpr rfl)
  · exact if_neg hkk
theorem law_19 {i fuel : Nat} (hNN : 54400 < N) (hL : L ≤ 3072) (hi : i + 6 ≤ L) (hI : InvL b0 M0 h j) (hk : xs i &&& 31 = nI 19) : ∃ hB, f_L_law_l23 N L xs b0 (b0 + 395) (b0 + 413) (fuel + 1) (nI i) h = f_L_law_l23 N L xs b0 (b0 + 395) (b0 + 413) fuel (nI i + (6 : Int32)) hB ∧ InvL b0 M0 hB (j + 1) := by
  have hx : ldS L xs (nI i) = some (xs i) := ld_S (by omega) hL
  have hl : ∀ a, a < 6 → ldS L xs (nI i + nI a) = some (xs (i + a)) := fun a ha => by rw [nadd]; exact ld_S (by omega) hL
  have hc : ¬ (nI L - (6 : Int32) < nI i) := fun h9 => by have := (law_cond hL (by omega)).mp h9; omega
  have hne : ∀ c, c < 19 → ¬ xs i &&& 31 = nI c := fun c hc9 h9 => by rw [hk, neq (by omega) (by omega)] at h9; omega
  obtain ⟨kk, hA, b, hB, q1, q2, q3, q4, q5⟩ := L_cancel (N := N) (xs := xs) (i := i) hNN hI
  refine ⟨hB, ?_, q5⟩
  rw [f_L_law_l23]
  refine (if_neg hc).trans ?_
  refine bind_of hx ?_
  refine zjn_of ?_
  refine (if_neg (hne 0 (by omega))).trans ?_
  refine (if_neg (hne 1 (by omega))).trans ?_
  refine (if_neg (hne 2 (by omega))).trans ?_
  refine (if_neg (hne 3 (by omega))).trans ?_
  refine (if_neg (hne 4 (by omega))).trans ?_
  refine (if_neg (hne 5 (by omega))).trans ?_
  refine (if_neg (hne 6 (by omega))).trans ?_
  refine (if_neg (hne 7 (by omega))).trans ?_
  refine (if_neg (hne 8 (by omega))).trans ?_
  refine (if_neg (hne 9 (by omega))).trans ?_
  refine (if_neg (hne 10 (by omega))).trans ?_
  refine (if_neg (hne 11 (by omega))).trans ?_
  refine (if_neg (hne 12 (by omega))).trans ?_
  refine (if_neg (hne 13 (by omega))).trans ?_
  refine (if_neg (hne 14 (by omega))).trans ?_
  refine (if_neg (hne 15 (by omega))).trans ?_
  refine (if_neg (hne 16 (by omega))).trans ?_
  refine (if_neg (hne 17 (by omega))).trans ?_
  refine (if_neg (hne 18 (by omega))).trans ?_
  refine (if_pos hk).trans ?_
  refine bind_of (hl 1 (by omega)) ?_
  refine bind_of (hl 2 (by omega)) ?_
  refine bind_of q1 ?_
  refine bind_of (hl 1 (by omega)) ?_
  refine bind_of (hl 2 (by omega)) ?_
  refine bind_of q2 ?_
  refine bind_of q3 ?_
  refine (if_pos rfl).trans ?_
  refine zjn_of ?_
  by_cases hkk : kk = nI 0
  · refine (if_pos hkk).trans ?_
    refine bind_of (q4 hkk) ?_
    exact if_pos ((lgc_eq _ _).mpr rfl)
  · exact if_neg hkk
theorem law_20 {i fuel : Nat} (hNN : 54400 < N) (hL : L ≤ 3072) (hi : i + 6 ≤ L) (hI : InvL b0 M0 h j) (hk : xs i &&& 31 = nI 20) : ∃ hB, f_L_law_l23 N L xs b0 (b0 + 395) (b0 + 413) (fuel + 1) (nI i) h = f_L_law_l23 N L xs b0 (b0 + 395) (b0 + 413) fuel (nI i + (6 : Int32)) hB ∧ InvL b0 M0 hB (j + 1) := by
  have hx : ldS L xs (nI i) = some (xs i) := ld_S (by omega) hL
  have hl : ∀ a, a < 6 → ldS L xs (nI i + nI a) = some (xs (i + a)) := fun a ha => by rw [nadd]; exact ld_S (by omega) hL
  have hc : ¬ (nI L - (6 : Int32) < nI i) := fun h9 => by have := (law_cond hL (by omega)).mp h9; omega
  have hne : ∀ c, c < 20 → ¬ xs i &&& 31 = nI c := fun c hc9 h9 => by rw [hk, neq (by omega) (by omega)] at h9; omega
  obtain ⟨kk, hA, b, hB, q1, q2, q3, q4, q5⟩ := L_pass (N := N) (i := i) hNN hI
  refine ⟨hB, ?_, q5⟩
  rw [f_L_law_l23]
  refine (if_neg hc).trans ?_
  refine bind_of hx ?_
  refine zjn_of ?_
  refine (if_neg (hne 0 (by omega))).trans ?_
  refine (if_neg (hne 1 (by omega))).trans ?_
  refine (if_neg (hne 2 (by omega))).trans ?_
  refine (if_neg (hne 3 (by omega))).trans ?_
  refine (if_neg (hne 4 (by omega))).trans ?_
  refine (if_neg (hne 5 (by omega))).trans ?_
  refine (if_neg (hne 6 (by omega))).trans ?_
  refine (if_neg (hne 7 (by omega))).trans ?_
  refine (if_neg (hne 8 (by omega))).trans ?_
  refine (if_neg (hne 9 (by omega))).trans ?_
  refine (if_neg (hne 10 (by omega))).trans ?_
  refine (if_neg (hne 11 (by omega))).trans ?_
  refine (if_neg (hne 12 (by omega))).trans ?_
  refine (if_neg (hne 13 (by omega))).trans ?_
  refine (if_neg (hne 14 (by omega))).trans ?_
  refine (if_neg (hne 15 (by omega))).trans ?_
  refine (if_neg (hne 16 (by omega))).trans ?_
  refine (if_neg (hne 17 (by omega))).trans ?_
  refine (if_neg (hne 18 (by omega))).trans ?_
  refine (if_neg (hne 19 (by omega))).trans ?_
  refine (if_pos hk).trans ?_
  refine bind_of q1 ?_
  refine bind_of q2 ?_
  refine bind_of q3 ?_
  refine (if_pos rfl).trans ?_
  refine zjn_of ?_
  by_cases hkk : kk = nI 0
  · refine (if_pos hkk).trans ?_
    refine bind_of (q4 hkk) ?_
    exact if_pos ((lgc_eq _ _).mpr rfl)
  · exact if_neg hkk
theorem law_21 {i fuel : Nat} (hNN : 54400 < N) (hL : L ≤ 3072) (hi : i + 6 ≤ L) (hI : InvL b0 M0 h j) (hk : xs i &&& 31 = nI 21) : ∃ hB, f_L_law_l23 N L xs b0 (b0 + 395) (b0 + 413) (fuel + 1) (nI i) h = f_L_law_l23 N L xs b0 (b0 + 395) (b0 + 413) fuel (nI i + (6 : Int32)) hB ∧ InvL b0 M0 hB (j + 1) := by
  have hx : ldS L xs (nI i) = some (xs i) := ld_S (by omega) hL
  have hl : ∀ a, a < 6 → ldS L xs (nI i + nI a) = some (xs (i + a)) := fun a ha => by rw [nadd]; exact ld_S (by omega) hL
  have hc : ¬ (nI L - (6 : Int32) < nI i) := fun h9 => by have := (law_cond hL (by omega)).mp h9; omega
  have hne : ∀ c, c < 21 → ¬ xs i &&& 31 = nI c := fun c hc9 h9 => by rw [hk, neq (by omega) (by omega)] at h9; omega
  obtain ⟨kk, hA, b, hB, q1, q2, q3, q4, q5⟩ := L_give (N := N) (xs := xs) (i := i) hNN hI
  refine ⟨hB, ?_, q5⟩
  rw [f_L_law_l23]
  refine (if_neg hc).trans ?_
  refine bind_of hx ?_
  refine zjn_of ?_
  refine (if_neg (hne 0 (by omega))).trans ?_
  refine (if_neg (hne 1 (by omega))).trans ?_
  refine (if_neg (hne 2 (by omega))).trans ?_
  refine (if_neg (hne 3 (by omega))).trans ?_
  refine (if_neg (hne 4 (by omega))).trans ?_
  refine (if_neg (hne 5 (by omega))).trans ?_
  refine (if_neg (hne 6 (by omega))).trans ?_
  refine (if_neg (hne 7 (by omega))).trans ?_
  refine (if_neg (hne 8 (by omega))).trans ?_
  refine (if_neg (hne 9 (by omega))).trans ?_
  refine (if_neg (hne 10 (by omega))).trans ?_
  refine (if_neg (hne 11 (by omega))).trans ?_
  refine (if_neg (hne 12 (by omega))).trans ?_
  refine (if_neg (hne 13 (by omega))).trans ?_
  refine (if_neg (hne 14 (by omega))).trans ?_
  refine (if_neg (hne 15 (by omega))).trans ?_
  refine (if_neg (hne 16 (by omega))).trans ?_
  refine (if_neg (hne 17 (by omega))).trans ?_
  refine (if_neg (hne 18 (by omega))).trans ?_
  refine (if_neg (hne 19 (by omega))).trans ?_
  refine (if_neg (hne 20 (by omega))).trans ?_
  refine (if_pos hk).trans ?_
  refine bind_of (hl 1 (by omega)) ?_
  refine bind_of (hl 2 (by omega)) ?_
  refine bind_of (hl 3 (by omega)) ?_
  refine bind_of q1 ?_
  refine bind_of (hl 1 (by omega)) ?_
  refine bind_of (hl 2 (by omega)) ?_
  refine bind_of (hl 3 (by omega)) ?_
  refine bind_of q2 ?_
  refine bind_of q3 ?_
  refine (if_pos rfl).trans ?_
  refine zjn_of ?_
  by_cases hkk : kk = nI 0
  · refine (if_pos hkk).trans ?_
    refine bind_of (q4 hkk) ?_
    exact if_pos ((lgc_eq _ _).mpr rfl)
  · exact if_neg hkk
theorem law_22 {i fuel : Nat} (hNN : 54400 < N) (hL : L ≤ 3072) (hi : i + 6 ≤ L) (hI : InvL b0 M0 h j) (hk : xs i &&& 31 = nI 22) : ∃ hB, f_L_law_l23 N L xs b0 (b0 + 395) (b0 + 413) (fuel + 1) (nI i) h = f_L_law_l23 N L xs b0 (b0 + 395) (b0 + 413) fuel (nI i + (6 : Int32)) hB ∧ InvL b0 M0 hB (j + 1) := by
  have hx : ldS L xs (nI i) = some (xs i) := ld_S (by omega) hL
  have hl : ∀ a, a < 6 → ldS L xs (nI i + nI a) = some (xs (i + a)) := fun a ha => by rw [nadd]; exact ld_S (by omega) hL
  have hc : ¬ (nI L - (6 : Int32) < nI i) := fun h9 => by have := (law_cond hL (by omega)).mp h9; omega
  have hne : ∀ c, c < 22 → ¬ xs i &&& 31 = nI c := fun c hc9 h9 => by rw [hk, neq (by omega) (by omega)] at h9; omega
  obtain ⟨kk, hA, b, hB, q1, q2, q3, q4, q5⟩ := L_discard (N := N) (xs := xs) (i := i) hNN hI
  refine ⟨hB, ?_, q5⟩
  rw [f_L_law_l23]
  refine (if_neg hc).trans ?_
  refine bind_of hx ?_
  refine zjn_of ?_
  refine (if_neg (hne 0 (by omega))).trans ?_
  refine (if_neg (hne 1 (by omega))).trans ?_
  refine (if_neg (hne 2 (by omega))).trans ?_
  refine (if_neg (hne 3 (by omega))).trans ?_
  refine (if_neg (hne 4 (by omega))).trans ?_
  refine (if_neg (hne 5 (by omega))).trans ?_
  refine (if_neg (hne 6 (by omega))).trans ?_
  refine (if_neg (hne 7 (by omega))).trans ?_
  refine (if_neg (hne 8 (by omega))).trans ?_
  refine (if_neg (hne 9 (by omega))).trans ?_
  refine (if_neg (hne 10 (by omega))).trans ?_
  refine (if_neg (hne 11 (by omega))).trans ?_
  refine (if_neg (hne 12 (by omega))).trans ?_
  refine (if_neg (hne 13 (by omega))).trans ?_
  refine (if_neg (hne 14 (by omega))).trans ?_
  refine (if_neg (hne 15 (by omega))).trans ?_
  refine (if_neg (hne 16 (by omega))).trans ?_
  refine (if_neg (hne 17 (by omega))).trans ?_
  refine (if_neg (hne 18 (by omega))).trans ?_
  refine (if_neg (hne 19 (by omega))).trans ?_
  refine (if_neg (hne 20 (by omega))).trans ?_
  refine (if_neg (hne 21 (by omega))).trans ?_
  refine (if_pos hk).trans ?_
  refine bind_of (hl 1 (by omega)) ?_
  refine bind_of (hl 2 (by omega)) ?_
  refine bind_of q1 ?_
  refine bind_of (hl 1 (by omega)) ?_
  refine bind_of (hl 2 (by omega)) ?_
  refine bind_of q2 ?_
  refine bind_of q3 ?_
  refine (if_pos rfl).trans ?_
  refine zjn_of ?_
  by_cases hkk : kk = nI 0
  · refine (if_pos hkk).trans ?_
    refine bind_of (q4 hkk) ?_
    exact if_pos ((lgc_eq _ _).mpr rfl)
  · exact if_neg hkk
theorem law_23 {i fuel : Nat} (hNN : 54400 < N) (hL : L ≤ 3072) (hi : i + 6 ≤ L) (hI : InvL b0 M0 h j) (hk : xs i &&& 31 = nI 23) : ∃ hB, f_L_law_l23 N L xs b0 (b0 + 395) (b0 + 413) (fuel + 1) (nI i) h = f_L_law_l23 N L xs b0 (b0 + 395) (b0 + 413) fuel (nI i + (6 : Int32)) hB ∧ InvL b0 M0 hB (j + 1) := by
  have hx : ldS L xs (nI i) = some (xs i) := ld_S (by omega) hL
  have hl : ∀ a, a < 6 → ldS L xs (nI i + nI a) = some (xs (i + a)) := fun a ha => by rw [nadd]; exact ld_S (by omega) hL
  have hc : ¬ (nI L - (6 : Int32) < nI i) := fun h9 => by have := (law_cond hL (by omega)).mp h9; omega
  have hne : ∀ c, c < 23 → ¬ xs i &&& 31 = nI c := fun c hc9 h9 => by rw [hk, neq (by omega) (by omega)] at h9; omega
  obtain ⟨⟨s, th, hW, hM1⟩, ho, hs1, hn1⟩ := id hI
  obtain ⟨d, K, t, ⟨q, hd, hK, ht⟩, ea, z, B⟩ := s
  obtain ⟨r, hA, hB, q1, q2, q5⟩ := L_N hW hM1 ho hs1 hn1 (PR_undo (N := N) (by omega) hW)
  refine ⟨hB, ?_, q5⟩
  rw [f_L_law_l23]
  refine (if_neg hc).trans ?_
  refine bind_of hx ?_
  refine zjn_of ?_
  refine (if_neg (hne 0 (by omega))).trans ?_
  refine (if_neg (hne 1 (by omega))).trans ?_
  refine (if_neg (hne 2 (by omega))).trans ?_
  refine (if_neg (hne 3 (by omega))).trans ?_
  refine (if_neg (hne 4 (by omega))).trans ?_
  refine (if_neg (hne 5 (by omega))).trans ?_
  refine (if_neg (hne 6 (by omega))).trans ?_
  refine (if_neg (hne 7 (by omega))).trans ?_
  refine (if_neg (hne 8 (by omega))).trans ?_
  refine (if_neg (hne 9 (by omega))).trans ?_
  refine (if_neg (hne 10 (by omega))).trans ?_
  refine (if_neg (hne 11 (by omega))).trans ?_
  refine (if_neg (hne 12 (by omega))).trans ?_
  refine (if_neg (hne 13 (by omega))).trans ?_
  refine (if_neg (hne 14 (by omega))).trans ?_
  refine (if_neg (hne 15 (by omega))).trans ?_
  refine (if_neg (hne 16 (by omega))).trans ?_
  refine (if_neg (hne 17 (by omega))).trans ?_
  refine (if_neg (hne 18 (by omega))).trans ?_
  refine (if_neg (hne 19 (by omega))).trans ?_
  refine (if_neg (hne 20 (by omega))).trans ?_
  refine (if_neg (hne 21 (by omega))).trans ?_
  refine (if_neg (hne 22 (by omega))).trans ?_
  refine (if_pos hk).trans ?_
  refine bind_of q1 ?_
  refine bind_of q2 ?_
  exact if_pos rfl
theorem law_24 {i fuel : Nat} (hNN : 54400 < N) (hL : L ≤ 3072) (hi : i + 6 ≤ L) (hI : InvL b0 M0 h j) (hk : xs i &&& 31 = nI 24) : ∃ hB, f_L_law_l23 N L xs b0 (b0 + 395) (b0 + 413) (fuel + 1) (nI i) h = f_L_law_l23 N L xs b0 (b0 + 395) (b0 + 413) fuel (nI i + (6 : Int32)) hB ∧ InvL b0 M0 hB (j + 1) := by
  have hx : ldS L xs (nI i) = some (xs i) := ld_S (by omega) hL
  have hl : ∀ a, a < 6 → ldS L xs (nI i + nI a) = some (xs (i + a)) := fun a ha => by rw [nadd]; exact ld_S (by omega) hL
  have hc : ¬ (nI L - (6 : Int32) < nI i) := fun h9 => by have := (law_cond hL (by omega)).mp h9; omega
  have hne : ∀ c, c < 24 → ¬ xs i &&& 31 = nI c := fun c hc9 h9 => by rw [hk, neq (by omega) (by omega)] at h9; omega
  obtain ⟨⟨s, th, hW, hM1⟩, ho, hs1, hn1⟩ := id hI
  obtain ⟨r, hA, hB, q1, q2, q5⟩ := L_ck hNN hW hM1 ho hs1 hn1
  refine ⟨hB, ?_, q5⟩
  rw [f_L_law_l23]
  refine (if_neg hc).trans ?_
  refine bind_of hx ?_
  refine zjn_of ?_
  refine (if_neg (hne 0 (by omega))).trans ?_
  refine (if_neg (hne 1 (by omega))).trans ?_
  refine (if_neg (hne 2 (by omega))).trans ?_
  refine (if_neg (hne 3 (by omega))).trans ?_
  refine (if_neg (hne 4 (by omega))).trans ?_
  refine (if_neg (hne 5 (by omega))).trans ?_
  refine (if_neg (hne 6 (by omega))).trans ?_
  refine (if_neg (hne 7 (by omega))).trans ?_
  refine (if_neg (hne 8 (by omega))).trans ?_
  refine (if_neg (hne 9 (by omega))).trans ?_
  refine (if_neg (hne 10 (by omega))).trans ?_
  refine (if_neg (hne 11 (by omega))).trans ?_
  refine (if_neg (hne 12 (by omega))).trans ?_
  refine (if_neg (hne 13 (by omega))).trans ?_
  refine (if_neg (hne 14 (by omega))).trans ?_
  refine (if_neg (hne 15 (by omega))).trans ?_
  refine (if_neg (hne 16 (by omega))).trans ?_
  refine (if_neg (hne 17 (by omega))).trans ?_
  refine (if_neg (hne 18 (by omega))).trans ?_
  refine (if_neg (hne 19 (by omega))).trans ?_
  refine (if_neg (hne 20 (by omega))).trans ?_
  refine (if_neg (hne 21 (by omega))).trans ?_
  refine (if_neg (hne 22 (by omega))).trans ?_
  refine (if_neg (hne 23 (by omega))).trans ?_
  refine (if_pos hk).trans ?_
  refine bind_of q1 ?_
  refine zth_of rfl ?_
  refine bind_of q2 ?_
  exact if_pos ((lgc_eq _ _).mpr rfl)
theorem law_25 {i fuel : Nat} (hNN : 54400 < N) (hL : L ≤ 3072) (hi : i + 6 ≤ L) (hI : InvL b0 M0 h j) {k : Nat} (hk : xs i &&& 31 = nI k) (hk2 : 25 ≤ k) (hk3 : k < 32) : ∃ hB, f_L_law_l23 N L xs b0 (b0 + 395) (b0 + 413) (fuel + 1) (nI i) h = f_L_law_l23 N L xs b0 (b0 + 395) (b0 + 413) fuel (nI i + (6 : Int32)) hB ∧ InvL b0 M0 hB (j + 1) := by
  have hx : ldS L xs (nI i) = some (xs i) := ld_S (by omega) hL
  have hl : ∀ a, a < 6 → ldS L xs (nI i + nI a) = some (xs (i + a)) := fun a ha => by rw [nadd]; exact ld_S (by omega) hL
  have hc : ¬ (nI L - (6 : Int32) < nI i) := fun h9 => by have := (law_cond hL (by omega)).mp h9; omega
  have hne : ∀ c, c < 25 → ¬ xs i &&& 31 = nI c := fun c hc9 h9 => by rw [hk, neq (by omega) (by omega)] at h9; omega
  obtain ⟨i1, i2, i3, i4⟩ := hI
  refine ⟨h, ?_, ⟨i1, i2, by omega, Nat.le_trans i4 (Nat.add_le_add_left (Nat.mul_le_mul_left _ (Nat.le_succ j)) _)⟩⟩
  rw [f_L_law_l23]
  refine (if_neg hc).trans ?_
  refine bind_of hx ?_
  refine zjn_of ?_
  refine (if_neg (hne 0 (by omega))).trans ?_
  refine (if_neg (hne 1 (by omega))).trans ?_
  refine (if_neg (hne 2 (by omega))).trans ?_
  refine (if_neg (hne 3 (by omega))).trans ?_
  refine (if_neg (hne 4 (by omega))).trans ?_
  refine (if_neg (hne 5 (by omega))).trans ?_
  refine (if_neg (hne 6 (by omega))).trans ?_
  refine (if_neg (hne 7 (by omega))).trans ?_
  refine (if_neg (hne 8 (by omega))).trans ?_
  refine (if_neg (hne 9 (by omega))).trans ?_
  refine (if_neg (hne 10 (by omega))).trans ?_
  refine (if_neg (hne 11 (by omega))).trans ?_
  refine (if_neg (hne 12 (by omega))).trans ?_
  refine (if_neg (hne 13 (by omega))).trans ?_
  refine (if_neg (hne 14 (by omega))).trans ?_
  refine (if_neg (hne 15 (by omega))).trans ?_
  refine (if_neg (hne 16 (by omega))).trans ?_
  refine (if_neg (hne 17 (by omega))).trans ?_
  refine (if_neg (hne 18 (by omega))).trans ?_
  refine (if_neg (hne 19 (by omega))).trans ?_
  refine (if_neg (hne 20 (by omega))).trans ?_
  refine (if_neg (hne 21 (by omega))).trans ?_
  refine (if_neg (hne 22 (by omega))).trans ?_
  refine (if_neg (hne 23 (by omega))).trans ?_
  refine (if_neg (hne 24 (by omega))).trans ?_
  rfl
theorem law_step {i fuel : Nat} (hNN : 54400 < N) (hLoad : ∀ (h : zH) (s : St) (x : Int32), WC b0 h s → PairW b0 (f_X8_load N b0 x) (f_X9_load N (b0 + 395) x) cSt h s) (hL : L ≤ 3072) (hi : i + 6 ≤ L) (hI : InvL b0 M0 h j) : ∃ hB, f_L_law_l23 N L xs b0 (b0 + 395) (b0 + 413) (fuel + 1) (nI i) h = f_L_law_l23 N L xs b0 (b0 + 395) (b0 + 413) fuel (nI i + (6 : Int32)) hB ∧ InvL b0 M0 hB (j + 1) := by
  obtain ⟨k, hk2, hk⟩ := and31 (xs i)
  by_cases h25 : 25 ≤ k
  · exact law_25 hNN hL hi hI hk h25 hk2
  · rcases (show k = 0 ∨ k = 1 ∨ k = 2 ∨ k = 3 ∨ k = 4 ∨ k = 5 ∨ k = 6 ∨ k = 7 ∨ k = 8 ∨ k = 9 ∨ k = 10 ∨ k = 11 ∨ k = 12 ∨ k = 13 ∨ k = 14 ∨ k = 15 ∨ k = 16 ∨ k = 17 ∨ k = 18 ∨ k = 19 ∨ k = 20 ∨ k = 21 ∨ k = 22 ∨ k = 23 ∨ k = 24 by omega) with rfl | rfl | rfl | rfl | rfl | rfl | rfl | rfl | rfl | rfl | rfl | rfl | rfl | rfl | rfl | rfl | rfl | rfl | rfl | rfl | rfl | rfl | rfl | rfl | rfl
    · exact law_0 hNN hL hi hI hk
    · exact law_1 hNN hLoad hL hi hI hk
    · exact law_2 hNN hL hi hI hk
    · exact law_3 hNN hL hi hI hk
    · exact law_4 hNN hL hi hI hk
    · exact law_5 hNN hL hi hI hk
    · exact law_6 hNN hL hi hI hk
    · exact law_7 hNN hL hi hI hk
    · exact law_8 hNN hL hi hI hk
    · exact law_9 hNN hL hi hI hk
    · exact law_10 hNN hL hi hI hk
    · exact law_11 hNN hL hi hI hk
    · exact law_12 hNN hL hi hI hk
    · exact law_13 hNN hL hi hI hk
    · exact law_14 hNN hL hi hI hk
    · exact law_15 hNN hL hi hI hk
    · exact law_16 hNN hL hi hI hk
    · exact law_17 hNN hL hi hI hk
    · exact law_18 hNN hL hi hI hk
    · exact law_19 hNN hL hi hI hk
    · exact law_20 hNN hL hi hI hk
    · exact law_21 hNN hL hi hI hk
    · exact law_22 hNN hL hi hI hk
    · exact law_23 hNN hL hi hI hk
    · exact law_24 hNN hL hi hI hk
theorem law_l (hNN : 54400 < N) (hLoad : ∀ (h : zH) (s : St) (x : Int32), WC b0 h s → PairW b0 (f_X8_load N b0 x) (f_X9_load N (b0 + 395) x) cSt h s) (hL : L ≤ 3072) : ∀ (r i fuel j : Nat) (h : zH), L ≤ i + 6 * r + 5 → i ≤ 3900 → r < fuel → InvL b0 M0 h j → ∃ h', f_L_law_l23 N L xs b0 (b0 + 395) (b0 + 413) fuel (nI i) h = some (.inl 1, h') ∧ hS h' ≤ b0 + 414 + 3 * (j + r) ∧ hN h' ≤ M0 + 720 * (j + r) := by
  intro r
  induction r with
  | zero =>
    intro i fuel j h hr hi hf hI
    obtain ⟨fuel, rfl⟩ : ∃ m, fuel = m + 1 := ⟨fuel - 1, by omega⟩
    refine ⟨h, ?_, hI.2.2.1, hI.2.2.2⟩
    rw [f_L_law_l23]
    exact if_pos ((law_cond hL (by omega)).mpr (by omega))
  | succ r ih =>
    intro i fuel j h hr hi hf hI
    obtain ⟨fuel, rfl⟩ : ∃ m, fuel = m + 1 := ⟨fuel - 1, by omega⟩
    by_cases hc : L < i + 6
    · refine ⟨h, ?_, by have := hI.2.2.1; omega, Nat.le_trans hI.2.2.2 (Nat.add_le_add_left (Nat.mul_le_mul_left _ (Nat.le_add_right _ _)) _)⟩
      rw [f_L_law_l23]
      exact if_pos ((law_cond hL (by omega)).mpr hc)
    · obtain ⟨hB, q1, q2⟩ := law_step (fuel := fuel) (xs := xs) hNN hLoad hL (show i + 6 ≤ L by omega) hI
      rw [q1, show (6 : Int32) = nI 6 from rfl, nadd]
      obtain ⟨h', i1, i2, i3⟩ := ih (i + 6) fuel (j + 1) hB (by omega) (by omega) (by omega) q2
      exact ⟨h', i1, by omega, by rw [show j + (r + 1) = j + 1 + r by omega]; exact i3⟩
end M99981

theorem php : ∀ (M c : Nat) (W : Nat → Nat), (∀ j, j < c → W j < M) → (∀ i j, i < c → j < c → W i = W j → i = j) → c ≤ M
  | 0, c, W, h1, _ => by
    rcases Nat.eq_zero_or_pos c with h | h
    · omega
    · exact absurd (h1 0 h) (Nat.not_lt_zero _)
  | M + 1, c, W, h1, h2 => by
    rcases Nat.eq_zero_or_pos c with h | h
    · omega
    · by_cases hx : ∃ i, i < c ∧ W i = M
      · obtain ⟨i, i1, i2⟩ := hx
        have := php M (c - 1) (fun j => if j = i then W (c - 1) else W j) (fun j hj => by
          by_cases hji : j = i
          · simp only [hji, ↓reduceIte]
            have a1 := h1 (c - 1) (by omega)
            have a2 : W (c - 1) ≠ M := fun h9 => by
              have := h2 (c - 1) i (by omega) i1 (h9.trans i2.symm)
              omega
            omega
          · simp only [hji, ↓reduceIte]
            have a1 := h1 j (by omega)
            have a2 : W j ≠ M := fun h9 => hji (h2 j i (by omega) i1 (h9.trans i2.symm))
            omega) (fun a b ha hb hab => by
          by_cases hai : a = i
          · by_cases hbi : b = i
            · omega
            · simp only [hai, hbi, ↓reduceIte] at hab
              have := h2 _ _ (by omega) (by omega) hab
              omega
          · by_cases hbi : b = i
            · simp only [hai, hbi, ↓reduceIte] at hab
              have := h2 _ _ (by omega) (by omega) hab
              omega
            · simp only [hai, hbi, ↓reduceIte] at hab
              exact h2 _ _ (by omega) (by omega) hab)
        omega
      · have := php M c W (fun j hj => by
          have a1 := h1 j hj
          have a2 : W j ≠ M := fun h9 => hx ⟨j, hj, h9⟩
          omega) h2
        omega
def memQ (s : (Nat → Nat) × Nat) (e : Nat) : Bool := anyR (fun j => Nat.beq (s.1 j) e) s.2 0
theorem memQ_iff {s : (Nat → Nat) × Nat} {e : Nat} : memQ s e = true ↔ ∃ j, j < s.2 ∧ s.1 j = e := by
  unfold memQ
  rw [anyR_iff]
  constructor
  · rintro ⟨j, h1, h2, h3⟩
    exact ⟨j, by omega, Nat.beq_eq ▸ h3⟩
  · rintro ⟨j, h1, h2⟩
    exact ⟨j, Nat.zero_le j, by omega, by rw [Nat.beq_eq]; exact h2⟩
def addQ (s : (Nat → Nat) × Nat) (e : Nat) : (Nat → Nat) × Nat := if memQ s e = true then s else (upN s.1 s.2 e, s.2 + 1)
def cardsQ (G : Nat → Nat) (i : Nat) : Nat → Nat → (Nat → Nat) × Nat → (Nat → Nat) × Nat
  | 0, _, s => s
  | r + 1, c, s => cardsQ G i r (c + 1) (addQ s (mulN (s.1 i) (G c)))
def genQ (k : Nat) (G : Nat → Nat) : Nat → Nat → (Nat → Nat) × Nat → (Nat → Nat) × Nat
  | 0, _, s => s
  | r + 1, i, s => if s.2 ≤ i then s else genQ k G r (i + 1) (cardsQ G i k 0 s)
def QOK (n : Nat) (s : (Nat → Nat) × Nat) : Prop := (∀ j, j < s.2 → s.1 j < fctN n) ∧ ∀ i j, i < s.2 → j < s.2 → s.1 i = s.1 j → i = j
theorem QOK_le {n : Nat} {s : (Nat → Nat) × Nat} (h : QOK n s) : s.2 ≤ fctN n := php _ _ _ h.1 h.2
theorem QOK_add {n e : Nat} {s : (Nat → Nat) × Nat} (h : QOK n s) (he : e < fctN n) : QOK n (addQ s e) := by
  unfold addQ
  split
  · exact h
  · next hm =>
    have hne : ∀ j, j < s.2 → s.1 j ≠ e := fun j hj h9 => hm (memQ_iff.mpr ⟨j, hj, h9⟩)
    refine ⟨fun j hj => ?_, fun i j hi hj hij => ?_⟩
    · show upN s.1 s.2 e j < _
      by_cases hjs : j = s.2
      · subst hjs; rw [upN_eq]; exact he
      · have hj' : j < s.2 + 1 := hj
        rw [upN_ne hjs]; exact h.1 j (by omega)
    · have hi' : i < s.2 + 1 := hi
      have hj' : j < s.2 + 1 := hj
      have hij' : upN s.1 s.2 e i = upN s.1 s.2 e j := hij
      by_cases his : i = s.2
      · by_cases hjs : j = s.2
        · omega
        · rw [his, upN_eq, upN_ne hjs] at hij'
          exact absurd hij'.symm (hne j (by omega))
      · by_cases hjs : j = s.2
        · rw [hjs, upN_eq, upN_ne his] at hij'
          exact absurd hij' (hne i (by omega))
        · rw [upN_ne his, upN_ne hjs] at hij'
          exact h.2 i j (by omega) (by omega) hij'
theorem addQ_old {s : (Nat → Nat) × Nat} {e i : Nat} (hi : i < s.2) : (addQ s e).1 i = s.1 i ∧ i < (addQ s e).2 := by
  unfold addQ
  split
  · exact ⟨rfl, hi⟩
  · exact ⟨upN_ne (by omega), Nat.lt_succ_of_lt hi⟩
theorem addQ_mem {s : (Nat → Nat) × Nat} {e f : Nat} : (∃ j, j < (addQ s e).2 ∧ (addQ s e).1 j = f) ↔ (∃ j, j < s.2 ∧ s.1 j = f) ∨ f = e := by
  unfold addQ
  split
  · next hm =>
    constructor
    · exact Or.inl
    · rintro (h1 | rfl)
      · exact h1
      · exact memQ_iff.mp hm
  · constructor
    · rintro ⟨j, h1, h2⟩
      have h1' : j < s.2 + 1 := h1
      have h2' : upN s.1 s.2 e j = f := h2
      by_cases hjs : j = s.2
      · rw [hjs, upN_eq] at h2'
        exact Or.inr h2'.symm
      · rw [upN_ne hjs] at h2'
        exact Or.inl ⟨j, by omega, h2'⟩
    · rintro (⟨j, h1, h2⟩ | rfl)
      · exact ⟨j, Nat.lt_succ_of_lt h1, (upN_ne (by omega)).trans h2⟩
      · exact ⟨s.2, Nat.lt_succ_self _, upN_eq _ _ _⟩
def GenX (s : (Nat → Nat) × Nat) (τ : Nat → Int64) (z : Int32) (F : Nat → Int32) : Prop := z = nI s.2 ∧ (∀ j, j < s.2 → F j = nI (s.1 j)) ∧ ∀ e, e < 128 → (AT τ 256 e = true ↔ ∃ j, j < s.2 ∧ s.1 j = e)
section M9994
variable {h : zH} {b0 N k : Nat} {z : Int32} {C F : Nat → Int32} {τ : Nat → Int64}
end M9994
section M9994m
variable {h : zH} {m N : Nat} {S B E : Nat → Int32} {H : Nat → Nat → Int32} {J : Nat → Int64} {L U Z W : Nat → Int32} {d : Nat → Nat}
def GenM (n : Nat) (s : (Nat → Nat) × Nat) (Z W : Nat → Int32) : Prop := (∀ j, j < s.2 → W j = nI (numN n (s.1 j))) ∧ ∀ e, e < fctN n → (¬ Z (piN n e) = nI 0 ↔ ∃ j, j < s.2 ∧ s.1 j = e)
theorem cardsQ_ok {n i k : Nat} {G : Nat → Nat} (hn : inN n) (hG : ∀ c, c < k → G c < fctN n) : ∀ (r c : Nat) (s : (Nat → Nat) × Nat), c + r ≤ k → i < s.2 → QOK n s → QOK n (cardsQ G i r c s)
  | 0, _, _, _, _, h => h
  | r + 1, c, s, hc, hi, h => cardsQ_ok hn hG r (c + 1) _ (by omega) (addQ_old hi).2 (QOK_add h (mul_in hn (h.1 i hi) (hG c (by omega))))
end M9994m
section M9994p
variable {h h' h1 : zH} {b0 K N q z : Nat} {ea : Int32} {d : Nat → Nat} {t : Nat → Nat} {hd : Nat → Nat → Nat} {hK : Nat → Nat} {ht : Nat → Nat → Nat} {B : Nat → Int32}
def startQ : (Nat → Nat) × Nat := (upN (fun _ => 0) 0 0, 1)
theorem startQ_ok {n : Nat} (hn : inN n) : QOK n startQ := ⟨fun j _ => by
  have := fct_pos hn
  show upN (fun _ => 0) 0 0 j < _
  unfold upN
  split
  · omega
  · show 0 < _
    omega, fun i j hi hj _ => by
  have hi' : i < 1 := hi
  have hj' : j < 1 := hj
  omega⟩
end M9994p

def anyR (b : Nat → Bool) : Nat → Nat → Bool
  | 0, _ => false
  | r + 1, m => if b m = true then true else anyR b r (m + 1)
def cntR (f : Nat → Bool) : Nat → Nat → Nat → Nat
  | 0, _, acc => acc
  | r + 1, e, acc => cntR f r (e + 1) (acc + (if f e = true then 1 else 0))
def fewU (b : Bool) (m : Nat) (best : Option Nat) : Option Nat := if b = true then (match best with
  | none => some (popN m)
  | some v => if v ≤ popN m then some v else some (popN m)) else best
def fewR (b : Nat → Bool) : Nat → Nat → Option Nat → Option Nat
  | 0, _, best => best
  | r + 1, m, best => fewR b r (m + 1) (fewU (b m) m best)
def sumR (w : Nat → Nat) (m : Nat) : Nat → Nat → Nat → Nat
  | 0, _, acc => acc
  | r + 1, c, acc => sumR w m r (c + 1) (acc + (if bitN m c = 0 then 0 else w c))
def minU (b : Bool) (v : Nat) (best : Option Nat) : Option Nat := if b = true then (match best with
  | none => some v
  | some u => some (min u v)) else best
def minR (b : Nat → Bool) (v : Nat → Nat) : Nat → Nat → Option Nat → Option Nat
  | 0, _, best => best
  | r + 1, m, best => minR b v r (m + 1) (minU (b m) (v m) best)
def fstR (b : Nat → Bool) : Nat → Nat → Option Nat
  | 0, _ => none
  | r + 1, c => if b c = true then some c else fstR b r (c + 1)
theorem anyR_iff (b : Nat → Bool) : ∀ r m, anyR b r m = true ↔ ∃ j, m ≤ j ∧ j < m + r ∧ b j = true
  | 0, m => ⟨fun h => (by cases h), fun ⟨j, h1, h2, _⟩ => (by omega)⟩
  | r + 1, m => by
    unfold anyR
    by_cases hb : b m = true
    · rw [if_pos hb]
      exact ⟨fun _ => ⟨m, Nat.le_refl m, by omega, hb⟩, fun _ => rfl⟩
    · rw [if_neg hb, anyR_iff b r (m + 1)]
      constructor
      · rintro ⟨j, h1, h2, h3⟩
        exact ⟨j, by omega, by omega, h3⟩
      · rintro ⟨j, h1, h2, h3⟩
        have : j ≠ m := fun h9 => hb (h9 ▸ h3)
        exact ⟨j, by omega, by omega, h3⟩
theorem anyR_congr {b b' : Nat → Bool} : ∀ r m, (∀ j, m ≤ j → j < m + r → b j = b' j) → anyR b r m = anyR b' r m
  | 0, _, _ => rfl
  | r + 1, m, h => by
    unfold anyR
    rw [h m (Nat.le_refl m) (by omega), anyR_congr r (m + 1) (fun j h1 h2 => h j (by omega) (by omega))]
theorem fewR_congr {b b' : Nat → Bool} : ∀ r m best, (∀ j, m ≤ j → j < m + r → b j = b' j) → fewR b r m best = fewR b' r m best
  | 0, _, _, _ => rfl
  | r + 1, m, best, h => by
    unfold fewR
    rw [h m (Nat.le_refl m) (by omega), fewR_congr r (m + 1) _ (fun j h1 h2 => h j (by omega) (by omega))]
theorem minR_congr {b b' : Nat → Bool} {v v' : Nat → Nat} : ∀ r m best, (∀ j, m ≤ j → j < m + r → b j = b' j ∧ v j = v' j) → minR b v r m best = minR b' v' r m best
  | 0, _, _, _ => rfl
  | r + 1, m, best, h => by
    unfold minR
    rw [(h m (Nat.le_refl m) (by omega)).1, (h m (Nat.le_refl m) (by omega)).2, minR_congr r (m + 1) _ (fun j h1 h2 => h j (by omega) (by omega))]
theorem fstR_congr {b b' : Nat → Bool} : ∀ r m, (∀ j, m ≤ j → j < m + r → b j = b' j) → fstR b r m = fstR b' r m
  | 0, _, _ => rfl
  | r + 1, m, h => by
    unfold fstR
    rw [h m (Nat.le_refl m) (by omega), fstR_congr r (m + 1) (fun j h1 h2 => h j (by omega) (by omega))]
theorem cntR_add (f : Nat → Bool) : ∀ r e acc, cntR f r e acc ≤ acc + r
  | 0, _, _ => Nat.le_refl _
  | r + 1, e, acc => by
    have := cntR_add f r (e + 1) (acc + (if f e = true then 1 else 0))
    show cntR f r (e + 1) _ ≤ _
    split at this <;> split <;> simp_all <;> omega
theorem sumR_le {w : Nat → Nat} {m : Nat} : ∀ r c acc, (∀ j, c ≤ j → j < c + r → w j ≤ 999) → sumR w m r c acc ≤ acc + 999 * r
  | 0, _, _, _ => Nat.le_refl _
  | r + 1, c, acc, h => by
    show sumR w m r (c + 1) _ ≤ _
    have := sumR_le (w := w) (m := m) r (c + 1) (acc + (if bitN m c = 0 then 0 else w c)) (fun j h1 h2 => h j (by omega) (by omega))
    have h2 := h c (Nat.le_refl c) (by omega)
    have h3 : (if bitN m c = 0 then 0 else w c) ≤ 999 := by split <;> omega
    omega
theorem b2_0 (b : Bool) : (b2 b = nI 0) = (b = false) := propext (b2_eq0 b)
theorem eIN {o : Option Nat} (ho : ∀ v, o = some v → v < 2 ^ 31) : (eI o = -nI 1) = (o = none) := eI_m1 ho
section M996
variable {h : zH} {b0 N k : Nat} {z : Int32} {C F : Nat → Int32} {τ : Nat → Int64}
theorem x_isReached_l {e : Nat} (hk : k ≤ 8) (he : e < 120) : ∀ (r m fuel : Nat), m + r = 2 ^ k → r < fuel → f_X3_isReached_l2 N (b0 + 390) (nI e) fuel (nI m) (hset h (b0 + 390) (b0 + 1) (nI k) (nI (2 ^ k)) C τ z F) = some (b2 (anyR (fun m => AT τ m e) r m), hset h (b0 + 390) (b0 + 1) (nI k) (nI (2 ^ k)) C τ z F) := by
  have p2 := pow2_le hk
  intro r
  induction r with
  | zero =>
    intro m fuel hm hf
    obtain ⟨fuel, rfl⟩ : ∃ m, fuel = m + 1 := ⟨fuel - 1, by omega⟩
    simp (disch := omega) only [f_X3_isReached_l2, hs_g, nleT, ↓reduceIte, Option.bind_some]
    rfl
  | succ r ih =>
    intro m fuel hm hf
    obtain ⟨fuel, rfl⟩ : ∃ m, fuel = m + 1 := ⟨fuel - 1, by omega⟩
    have c1 := x_contains (N := N) (h := h) (q := b0 + 390) (g := b0 + 1) (x := nI k) (y := nI (2 ^ k)) (C := C) (τ := τ) (z := z) (F := F) (m := m) (e := e) (by omega) he
    have i1 := ih (m + 1) fuel (by omega) (by omega)
    cases hb : AT τ m e with
    | false =>
      have e1 : anyR (fun m => AT τ m e) (r + 1) m = anyR (fun m => AT τ m e) r (m + 1) := by
        show (if AT τ m e = true then true else _) = _
        rw [hb]; rfl
      rw [e1, ← i1]
      rw [hb] at c1
      simp (disch := omega) only [f_X3_isReached_l2, hs_g, nlit, nleF, hs_o3, c1, b2_f', neqT, nadd, ↓reduceIte, Option.bind_some]
    | true =>
      have e1 : anyR (fun m => AT τ m e) (r + 1) m = true := by
        show (if AT τ m e = true then true else _) = _
        rw [hb]; rfl
      rw [e1]
      rw [hb] at c1
      have e0 : ((nI 1 : Int32) = nI 0) = False := eq_false (by decide)
      simp (disch := omega) only [f_X3_isReached_l2, hs_g, nlit, nleF, hs_o3, c1, b2_t', e0, ↓reduceIte, Option.bind_some]
theorem x_isReached {e : Nat} (hNN : 1000 < N) (hk : k ≤ 8) (he : e < 120) : f_X3_isReached N (b0 + 390) (nI e) (hset h (b0 + 390) (b0 + 1) (nI k) (nI (2 ^ k)) C τ z F) = some (b2 (anyR (fun m => AT τ m e) (2 ^ k - 1) 1), hset h (b0 + 390) (b0 + 1) (nI k) (nI (2 ^ k)) C τ z F) := by
  have p2 := pow2_le hk
  exact x_isReached_l hk he (2 ^ k - 1) 1 N (by omega) (by omega)
theorem x_countReached_l (hNN : 1000 < N) (hk : k ≤ 8) : ∀ (r e fuel acc : Nat), e + r = 120 → r < fuel → acc ≤ e → f_X3_countReached_l4 N (b0 + 390) fuel (nI acc) (nI e) (hset h (b0 + 390) (b0 + 1) (nI k) (nI (2 ^ k)) C τ z F) = some (nI (cntR (fun e => anyR (fun m => AT τ m e) (2 ^ k - 1) 1) r e acc), hset h (b0 + 390) (b0 + 1) (nI k) (nI (2 ^ k)) C τ z F) := by
  intro r
  induction r with
  | zero =>
    intro e fuel acc he hf ha
    obtain ⟨fuel, rfl⟩ : ∃ m, fuel = m + 1 := ⟨fuel - 1, by omega⟩
    simp (disch := omega) only [f_X3_countReached_l4, nlit, nleT, ↓reduceIte]
    rfl
  | succ r ih =>
    intro e fuel acc he hf ha
    obtain ⟨fuel, rfl⟩ : ∃ m, fuel = m + 1 := ⟨fuel - 1, by omega⟩
    have c1 := x_isReached (N := N) (h := h) (b0 := b0) (k := k) (C := C) (τ := τ) (z := z) (F := F) (e := e) hNN hk (by omega)
    cases hb : anyR (fun m => AT τ m e) (2 ^ k - 1) 1 with
    | false =>
      have i1 := ih (e + 1) fuel (acc + 0) (by omega) (by omega) (by omega)
      have e1 : cntR (fun e => anyR (fun m => AT τ m e) (2 ^ k - 1) 1) (r + 1) e acc = cntR (fun e => anyR (fun m => AT τ m e) (2 ^ k - 1) 1) r (e + 1) (acc + 0) := by
        show cntR _ r (e + 1) (acc + (if anyR (fun m => AT τ m e) (2 ^ k - 1) 1 = true then 1 else 0)) = _
        rw [hb]; rfl
      rw [e1, ← i1]
      rw [hb] at c1
      simp (disch := omega) only [f_X3_countReached_l4, nlit, nleF, hs_o3, c1, b2_f', neqT, nadd, zjn, ↓reduceIte, Option.bind_some]
    | true =>
      have i1 := ih (e + 1) fuel (acc + 1) (by omega) (by omega) (by omega)
      have e1 : cntR (fun e => anyR (fun m => AT τ m e) (2 ^ k - 1) 1) (r + 1) e acc = cntR (fun e => anyR (fun m => AT τ m e) (2 ^ k - 1) 1) r (e + 1) (acc + 1) := by
        show cntR _ r (e + 1) (acc + (if anyR (fun m => AT τ m e) (2 ^ k - 1) 1 = true then 1 else 0)) = _
        rw [hb]; rfl
      rw [e1, ← i1]
      rw [hb] at c1
      have e0 : ((nI 1 : Int32) = nI 0) = False := eq_false (by decide)
      simp (disch := omega) only [f_X3_countReached_l4, nlit, nleF, hs_o3, c1, b2_t', e0, nadd, zjn, ↓reduceIte, Option.bind_some]
theorem x_countReached (hNN : 1000 < N) (hk : k ≤ 8) : f_X3_countReached N (b0 + 390) (hset h (b0 + 390) (b0 + 1) (nI k) (nI (2 ^ k)) C τ z F) = some (nI (cntR (fun e => anyR (fun m => AT τ m e) (2 ^ k - 1) 1) 120 0 0), hset h (b0 + 390) (b0 + 1) (nI k) (nI (2 ^ k)) C τ z F) := x_countReached_l hNN hk 120 0 N 0 (by omega) (by omega) (by omega)
theorem popN_le (m : Nat) : popN m ≤ 8 := by unfold popN; omega
theorem x_fewest_l {w : Nat} (hk : k ≤ 8) (hw : w < 120) : ∀ (r m fuel : Nat) (best : Option Nat), m + r = 2 ^ k → r < fuel → (∀ v, best = some v → v ≤ 8) → f_X3_fewestCardsFor_l4 N (b0 + 390) (nI w) fuel (eI best) (nI m) (hset h (b0 + 390) (b0 + 1) (nI k) (nI (2 ^ k)) C τ z F) = some (eI (fewR (fun m => AT τ m w) r m best), hset h (b0 + 390) (b0 + 1) (nI k) (nI (2 ^ k)) C τ z F) := by
  have p2 := pow2_le hk
  intro r
  induction r with
  | zero =>
    intro m fuel best hm hf hb
    obtain ⟨fuel, rfl⟩ : ∃ m, fuel = m + 1 := ⟨fuel - 1, by omega⟩
    simp (disch := omega) only [f_X3_fewestCardsFor_l4, hs_g, nleT, ↓reduceIte, Option.bind_some]
    rfl
  | succ r ih =>
    intro m fuel best hm hf hbest
    obtain ⟨fuel, rfl⟩ : ∃ m, fuel = m + 1 := ⟨fuel - 1, by omega⟩
    have c1 := x_contains (N := N) (h := h) (q := b0 + 390) (g := b0 + 1) (x := nI k) (y := nI (2 ^ k)) (C := C) (τ := τ) (z := z) (F := F) (m := m) (e := w) (by omega) hw
    have c2 := x_bc (N := N) (h := hset h (b0 + 390) (b0 + 1) (nI k) (nI (2 ^ k)) C τ z F) (s := m) (by omega)
    have p8 := popN_le m
    show _ = some (eI (fewR (fun m => AT τ m w) r (m + 1) (fewU (AT τ m w) m best)), _)
    have hb2 : ∀ v, fewU (AT τ m w) m best = some v → v ≤ 8 := by
      intro v hv
      unfold fewU at hv
      split at hv
      · split at hv
        · cases hv; exact p8
        · split at hv
          · cases hv; exact hbest v rfl
          · cases hv; exact p8
      · exact hbest v hv
    rw [← ih (m + 1) fuel _ (by omega) (by omega) hb2]
    have e0 : ((nI 1 : Int32) = nI 0) = False := eq_false (by decide)
    have e00 : ((nI 0 : Int32) = nI 0) = True := eq_true rfl
    cases hb : AT τ m w with
    | false =>
      rw [hb] at c1
      simp (disch := omega) only [f_X3_fewestCardsFor_l4, hs_g, nlit, nleF, hs_o3, c1, c2, b2_f', e00, nadd, zjn, fewU, reduceCtorEq, Bool.false_eq_true, ↓reduceIte, Option.bind_some]
    | true =>
      rw [hb] at c1
      cases best with
      | none =>
        have e1 : (eI none = -nI 1) = True := eq_true rfl
        simp (disch := omega) only [f_X3_fewestCardsFor_l4, hs_g, nlit, nleF, hs_o3, c1, c2, b2_t', e0, e1, nadd, zjn, fewU, ↓reduceIte, Option.bind_some]
        rfl
      | some v =>
        have hv8 := hbest v rfl
        have e1 : (nI v = -nI 1) = False := eq_false fun h9 => nI_nn (show v < 2 ^ 31 by omega) (by rw [h9]; decide)
        by_cases hvp : v ≤ popN m
        · simp (disch := omega) only [f_X3_fewestCardsFor_l4, hs_g, nlit, nleF, nleT, hs_o3, c1, c2, b2_t', e0, eI, e1, hvp, nadd, zjn, fewU, ↓reduceIte, Option.bind_some]
        · simp (disch := omega) only [f_X3_fewestCardsFor_l4, hs_g, nlit, nleF, nleT, hs_o3, c1, c2, b2_t', e0, eI, e1, hvp, nadd, zjn, fewU, ↓reduceIte, Option.bind_some]
theorem x_fewest {w : Nat} (hNN : 1000 < N) (hk : k ≤ 8) (hw : w < 120) : f_X3_fewestCardsFor N (b0 + 390) (nI w) (hset h (b0 + 390) (b0 + 1) (nI k) (nI (2 ^ k)) C τ z F) = some (eI (fewR (fun m => AT τ m w) (2 ^ k - 1) 1 none), hset h (b0 + 390) (b0 + 1) (nI k) (nI (2 ^ k)) C τ z F) := by
  have p2 := pow2_le hk
  exact x_fewest_l (τ := τ) hk hw (2 ^ k - 1) 1 N none (by omega) (by omega) (fun v hv => by cases hv)
def opnB (τ : Nat → Int64) (few c rest m : Nat) : Bool := decide (popN m = few) && decide (bitN m c = 1) && AT τ (m - 2 ^ c) rest
end M996

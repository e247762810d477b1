def isR (r : Nat) : Bool := [3, 5, 8, 10, 13, 15, 18, 20, 23, 25, 27, 29, 31, 33].contains r
def isB (r : Nat) : Bool := [2, 7, 12, 17, 22].contains r
def rlen (r : Nat) : Nat := if r < 27 then 8 else if r < 29 then 12 else 20
theorem isR_lt {r : Nat} (hr : isR r = true) : 2 < r ∧ r < 34 ∧ isB r = false ∧ isB (r + 1) = false ∧ isR (r + 1) = false := by
  have h1 : r = 3 ∨ r = 5 ∨ r = 8 ∨ r = 10 ∨ r = 13 ∨ r = 15 ∨ r = 18 ∨ r = 20 ∨ r = 23 ∨ r = 25 ∨ r = 27 ∨ r = 29 ∨ r = 31 ∨ r = 33 := by simpa [isR] using hr
  rcases h1 with rfl | rfl | rfl | rfl | rfl | rfl | rfl | rfl | rfl | rfl | rfl | rfl | rfl | rfl <;> decide
theorem rlen_le (r : Nat) : 8 ≤ rlen r ∧ rlen r ≤ 20 := by unfold rlen; split <;> (try split) <;> omega
theorem isR_e {p : Nat} (hp : p < 5) : isR (3 + 5 * p) = true := by rcases (show p = 0 ∨ p = 1 ∨ p = 2 ∨ p = 3 ∨ p = 4 by omega) with rfl | rfl | rfl | rfl | rfl <;> rfl
theorem isR_b {p : Nat} (hp : p < 5) : isR (5 + 5 * p) = true := by rcases (show p = 0 ∨ p = 1 ∨ p = 2 ∨ p = 3 ∨ p = 4 by omega) with rfl | rfl | rfl | rfl | rfl <;> rfl
theorem isB_p {p : Nat} (hp : p < 5) : isB (2 + 5 * p) = true := by rcases (show p = 0 ∨ p = 1 ∨ p = 2 ∨ p = 3 ∨ p = 4 by omega) with rfl | rfl | rfl | rfl | rfl <;> rfl
theorem rlen_e {p : Nat} (hp : p < 5) : rlen (3 + 5 * p) = 8 := if_pos (by omega)
theorem rlen_b {p : Nat} (hp : p < 5) : rlen (5 + 5 * p) = 8 := if_pos (by omega)
def aob (a g rl : Nat) (T : Nat → Int32) : zE := .inr (0, [.ref g, .ref (a + 1), .ref (a + 27), .ref (a + 29), .ref (a + 31), .ref (a + 33), .ref (a + 35), .ref rl, .int (T 8), .int (T 9), .int (T 10), .int (T 11), .int (T 12), .int (T 13), .int (T 14)])
def acl (a g rl : Nat) (T R : Nat → Int32) (X : Nat → Nat → Int32) (P Q : Nat → Int32) (j : Nat) : Option zE :=
  if j = 0 then some (aob a g rl T) else if j = 1 then some (.inl (3, 5, .inr (.inr (.inr (.inr (fun k => if k < 5 then some (a + (2 + 5 * k)) else none)))))) else if isB j = true then some (.inr (1, [.ref (a + (j + 1)), .ref (a + (j + 3)), .int (P ((j - 2) / 5)), .int (Q ((j - 2) / 5))])) else if isR j = true then some (.inr (6, [.ref (a + (j + 1)), .int (R j)])) else if isR (j - 1) = true then some (.inl (0, rlen (j - 1), .inl (X (j - 1)))) else none
/-- the heap with an auction there, in this state -/
def aset (h : zH) (a g rl : Nat) (T R : Nat → Int32) (X : Nat → Nat → Int32) (P Q : Nat → Int32) : zH := rs h a 35 (acl a g rl T R X P Q)
theorem hS_as (h : zH) (a g rl : Nat) (T R : Nat → Int32) (X : Nat → Nat → Int32) (P Q : Nat → Int32) : hS (aset h a g rl T R X P Q) = hS h := rfl
theorem hN_as (h : zH) (a g rl : Nat) (T R : Nat → Int32) (X : Nat → Nat → Int32) (P Q : Nat → Int32) : hN (aset h a g rl T R X P Q) = hN h := rfl
section ASET
variable {h : zH} {a g rl : Nat} {T R : Nat → Int32} {X : Nat → Nat → Int32} {P Q : Nat → Int32}
theorem as_0 : hM (aset h a g rl T R X P Q) a = some (aob a g rl T) := rs_in (h := h) (a := a) (len := 35) (j := 0) (c := acl a g rl T R X P Q) (by omega) rfl
theorem as_1 : hM (aset h a g rl T R X P Q) (a + 1) = some (.inl (3, 5, .inr (.inr (.inr (.inr (fun k => if k < 5 then some (a + (2 + 5 * k)) else none)))))) := rs_in (h := h) (a := a) (len := 35) (j := 1) (c := acl a g rl T R X P Q) (by omega) rfl
theorem as_b {p : Nat} (hp : p < 5) : hM (aset h a g rl T R X P Q) (a + (2 + 5 * p)) = some (.inr (1, [.ref (a + (3 + 5 * p)), .ref (a + (5 + 5 * p)), .int (P p), .int (Q p)])) := by
  refine rs_in (h := h) (a := a) (len := 35) (j := 2 + 5 * p) (c := acl a g rl T R X P Q) (by omega) ?_
  rw [acl, if_neg (by omega), if_neg (by omega), if_pos (isB_p hp), show 2 + 5 * p + 1 = 3 + 5 * p by omega, show 2 + 5 * p + 3 = 5 + 5 * p by omega, show (2 + 5 * p - 2) / 5 = p by omega]
theorem as_r {r : Nat} (hr : isR r = true) : hM (aset h a g rl T R X P Q) (a + r) = some (.inr (6, [.ref (a + (r + 1)), .int (R r)])) := by
  obtain ⟨h1, h2, h3, h4, h5⟩ := isR_lt hr
  refine rs_in (h := h) (a := a) (len := 35) (j := r) (c := acl a g rl T R X P Q) (by omega) ?_
  rw [acl, if_neg (by omega), if_neg (by omega), if_neg (by rw [h3]; decide), if_pos hr]
theorem as_c {r : Nat} (hr : isR r = true) : hM (aset h a g rl T R X P Q) (a + (r + 1)) = some (.inl (0, rlen r, .inl (X r))) := by
  obtain ⟨h1, h2, h3, h4, h5⟩ := isR_lt hr
  refine rs_in (h := h) (a := a) (len := 35) (j := r + 1) (c := acl a g rl T R X P Q) (by omega) ?_
  rw [acl, if_neg (by omega), if_neg (by omega), if_neg (by rw [h4]; decide), if_neg (by rw [h5]; decide), Nat.add_sub_cancel, if_pos hr]
theorem aput_0 {T' : Nat → Int32} {rl' : Nat} {e : zE} (he : e = aob a g rl' T') : hPut (aset h a g rl T R X P Q) a e = (aset h a g rl' T' R X P Q) := by
  subst he
  have h1 := rs_put (h := h) (a := a) (len := 35) (j := 0) (c := acl a g rl T R X P Q) (e := aob a g rl' T') (by omega)
  refine Eq.trans h1 (rs_ext fun j hj => ?_)
  by_cases hj0 : j = 0
  · subst hj0; rfl
  · simp only [acl, if_neg hj0]
theorem aput_b {p : Nat} {x y : Int32} (hp : p < 5) : hPut (aset h a g rl T R X P Q) (a + (2 + 5 * p)) (.inr (1, [.ref (a + (3 + 5 * p)), .ref (a + (5 + 5 * p)), .int x, .int y])) = (aset h a g rl T R X (upd P p x) (upd Q p y)) := by
  have h1 := rs_put (h := h) (a := a) (len := 35) (j := 2 + 5 * p) (c := acl a g rl T R X P Q) (e := .inr (1, [.ref (a + (3 + 5 * p)), .ref (a + (5 + 5 * p)), .int x, .int y])) (by omega)
  refine Eq.trans h1 (rs_ext fun j hj => ?_)
  by_cases hj0 : j = 2 + 5 * p
  · subst hj0
    rw [if_pos rfl, acl, if_neg (by omega), if_neg (by omega), if_pos (isB_p hp), show 2 + 5 * p + 1 = 3 + 5 * p by omega, show 2 + 5 * p + 3 = 5 + 5 * p by omega, show (2 + 5 * p - 2) / 5 = p by omega, upS_eq, upS_eq]
  · rw [if_neg hj0, acl, acl]
    by_cases hb : isB j = true
    · have hj1 : j = 2 ∨ j = 7 ∨ j = 12 ∨ j = 17 ∨ j = 22 := by simpa [isB] using hb
      rw [upS_ne (by omega), upS_ne (by omega)]
    · rw [if_neg hb, if_neg hb]
theorem aput_r {r : Nat} {x : Int32} (hr : isR r = true) : hPut (aset h a g rl T R X P Q) (a + r) (.inr (6, [.ref (a + (r + 1)), .int x])) = (aset h a g rl T (upd R r x) X P Q) := by
  obtain ⟨h1, h2, h3, h4, h5⟩ := isR_lt hr
  have h1 := rs_put (h := h) (a := a) (len := 35) (j := r) (c := acl a g rl T R X P Q) (e := .inr (6, [.ref (a + (r + 1)), .int x])) (by omega)
  refine Eq.trans h1 (rs_ext fun j hj => ?_)
  by_cases hj0 : j = r
  · subst hj0
    rw [if_pos rfl, acl, if_neg (by omega), if_neg (by omega), if_neg (by rw [h3]; decide), if_pos hr, upS_eq]
  · rw [if_neg hj0, acl, acl, upS_ne hj0]
theorem aput_c {r : Nat} {f : Nat → Int32} (hr : isR r = true) : hPut (aset h a g rl T R X P Q) (a + (r + 1)) (.inl (0, rlen r, .inl f)) = (aset h a g rl T R (updH X r f) P Q) := by
  obtain ⟨h1, h2, h3, h4, h5⟩ := isR_lt hr
  have h1 := rs_put (h := h) (a := a) (len := 35) (j := r + 1) (c := acl a g rl T R X P Q) (e := .inl (0, rlen r, .inl f)) (by omega)
  refine Eq.trans h1 (rs_ext fun j hj => ?_)
  by_cases hj0 : j = r + 1
  · subst hj0
    rw [if_pos rfl, acl, if_neg (by omega), if_neg (by omega), if_neg (by rw [h4]; decide), if_neg (by rw [h5]; decide), Nat.add_sub_cancel, if_pos hr, updH_eq]
  · rw [if_neg hj0, acl, acl]
    by_cases hj1 : j = 0
    · rw [if_pos hj1, if_pos hj1]
    · rw [updH_ne (by omega)]
theorem onO_a {β : Type} {F : Option β} : onO 0 a (aset h a g rl T R X P Q) F = F := onO_of' as_0
theorem onO_b {β : Type} {F : Option β} {p : Nat} (hp : p < 5) : onO 1 (a + (2 + 5 * p)) (aset h a g rl T R X P Q) F = F := onO_of' (as_b hp)
theorem onO_r {β : Type} {F : Option β} {r : Nat} (hr : isR r = true) : onO 6 (a + r) (aset h a g rl T R X P Q) F = F := onO_of' (as_r hr)
theorem gI_a : gI (aset h a g rl T R X P Q) a 0 8 = some (T 8) ∧ gI (aset h a g rl T R X P Q) a 0 9 = some (T 9) ∧ gI (aset h a g rl T R X P Q) a 0 10 = some (T 10) ∧ gI (aset h a g rl T R X P Q) a 0 11 = some (T 11) ∧ gI (aset h a g rl T R X P Q) a 0 12 = some (T 12) ∧ gI (aset h a g rl T R X P Q) a 0 13 = some (T 13) ∧ gI (aset h a g rl T R X P Q) a 0 14 = some (T 14) := ⟨gI_of' as_0 rfl, gI_of' as_0 rfl, gI_of' as_0 rfl, gI_of' as_0 rfl, gI_of' as_0 rfl, gI_of' as_0 rfl, gI_of' as_0 rfl⟩
theorem gA_a : gA (aset h a g rl T R X P Q) a 0 0 = some g ∧ gA (aset h a g rl T R X P Q) a 0 1 = some (a + 1) ∧ gA (aset h a g rl T R X P Q) a 0 2 = some (a + 27) ∧ gA (aset h a g rl T R X P Q) a 0 3 = some (a + 29) ∧ gA (aset h a g rl T R X P Q) a 0 4 = some (a + 31) ∧ gA (aset h a g rl T R X P Q) a 0 5 = some (a + 33) ∧ gA (aset h a g rl T R X P Q) a 0 6 = some (a + 35) ∧ gA (aset h a g rl T R X P Q) a 0 7 = some rl := ⟨gA_of' as_0 rfl, gA_of' as_0 rfl, gA_of' as_0 rfl, gA_of' as_0 rfl, gA_of' as_0 rfl, gA_of' as_0 rfl, gA_of' as_0 rfl, gA_of' as_0 rfl⟩
theorem pF_a8 (x : Int32) : pF (aset h a g rl T R X P Q) a 0 8 (.int x) = some (aset h a g rl (upd T 8 x) R X P Q) := (pF_of' as_0 (by show 8 < 15; omega)).trans (congrArg some (aput_0 (T' := upd T 8 x) rfl))
theorem pF_a9 (x : Int32) : pF (aset h a g rl T R X P Q) a 0 9 (.int x) = some (aset h a g rl (upd T 9 x) R X P Q) := (pF_of' as_0 (by show 9 < 15; omega)).trans (congrArg some (aput_0 (T' := upd T 9 x) rfl))
theorem pF_a10 (x : Int32) : pF (aset h a g rl T R X P Q) a 0 10 (.int x) = some (aset h a g rl (upd T 10 x) R X P Q) := (pF_of' as_0 (by show 10 < 15; omega)).trans (congrArg some (aput_0 (T' := upd T 10 x) rfl))
theorem pF_a11 (x : Int32) : pF (aset h a g rl T R X P Q) a 0 11 (.int x) = some (aset h a g rl (upd T 11 x) R X P Q) := (pF_of' as_0 (by show 11 < 15; omega)).trans (congrArg some (aput_0 (T' := upd T 11 x) rfl))
theorem pF_a12 (x : Int32) : pF (aset h a g rl T R X P Q) a 0 12 (.int x) = some (aset h a g rl (upd T 12 x) R X P Q) := (pF_of' as_0 (by show 12 < 15; omega)).trans (congrArg some (aput_0 (T' := upd T 12 x) rfl))
theorem pF_a13 (x : Int32) : pF (aset h a g rl T R X P Q) a 0 13 (.int x) = some (aset h a g rl (upd T 13 x) R X P Q) := (pF_of' as_0 (by show 13 < 15; omega)).trans (congrArg some (aput_0 (T' := upd T 13 x) rfl))
theorem pF_a14 (x : Int32) : pF (aset h a g rl T R X P Q) a 0 14 (.int x) = some (aset h a g rl (upd T 14 x) R X P Q) := (pF_of' as_0 (by show 14 < 15; omega)).trans (congrArg some (aput_0 (T' := upd T 14 x) rfl))
theorem pF_a : (∀ x : Int32, pF (aset h a g rl T R X P Q) a 0 8 (.int x) = some (aset h a g rl (upd T 8 x) R X P Q)) ∧ (∀ x : Int32, pF (aset h a g rl T R X P Q) a 0 9 (.int x) = some (aset h a g rl (upd T 9 x) R X P Q)) ∧ (∀ x : Int32, pF (aset h a g rl T R X P Q) a 0 10 (.int x) = some (aset h a g rl (upd T 10 x) R X P Q)) ∧ (∀ x : Int32, pF (aset h a g rl T R X P Q) a 0 11 (.int x) = some (aset h a g rl (upd T 11 x) R X P Q)) ∧ (∀ x : Int32, pF (aset h a g rl T R X P Q) a 0 12 (.int x) = some (aset h a g rl (upd T 12 x) R X P Q)) ∧ (∀ x : Int32, pF (aset h a g rl T R X P Q) a 0 13 (.int x) = some (aset h a g rl (upd T 13 x) R X P Q)) ∧ (∀ x : Int32, pF (aset h a g rl T R X P Q) a 0 14 (.int x) = some (aset h a g rl (upd T 14 x) R X P Q)) := ⟨pF_a8, pF_a9, pF_a10, pF_a11, pF_a12, pF_a13, pF_a14⟩
theorem pF_rl (x : Nat) : pF (aset h a g rl T R X P Q) a 0 7 (.ref x) = some (aset h a g x T R X P Q) := (pF_of' as_0 (by show 7 < 15; omega)).trans (congrArg some (aput_0 (rl' := x) (T' := T) rfl))
theorem gI_b {p : Nat} (hp : p < 5) : gI (aset h a g rl T R X P Q) (a + (2 + 5 * p)) 1 2 = some (P p) ∧ gI (aset h a g rl T R X P Q) (a + (2 + 5 * p)) 1 3 = some (Q p) := ⟨gI_of' (as_b hp) rfl, gI_of' (as_b hp) rfl⟩
theorem gA_b {p : Nat} (hp : p < 5) : gA (aset h a g rl T R X P Q) (a + (2 + 5 * p)) 1 0 = some (a + (3 + 5 * p)) ∧ gA (aset h a g rl T R X P Q) (a + (2 + 5 * p)) 1 1 = some (a + (5 + 5 * p)) := ⟨gA_of' (as_b hp) rfl, gA_of' (as_b hp) rfl⟩
theorem pF_bP {p : Nat} {x : Int32} (hp : p < 5) : pF (aset h a g rl T R X P Q) (a + (2 + 5 * p)) 1 2 (.int x) = some (aset h a g rl T R X (upd P p x) Q) := by
  have e : aset h a g rl T R X (upd P p x) Q = aset h a g rl T R X (upd P p x) (upd Q p (Q p)) := by rw [upS_same rfl]
  rw [pF_of' (as_b hp) (by show 2 < 4; omega), e]
  exact congrArg some (aput_b hp)
theorem pF_bQ {p : Nat} {x : Int32} (hp : p < 5) : pF (aset h a g rl T R X P Q) (a + (2 + 5 * p)) 1 3 (.int x) = some (aset h a g rl T R X P (upd Q p x)) := by
  have e : aset h a g rl T R X P (upd Q p x) = aset h a g rl T R X (upd P p (P p)) (upd Q p x) := by rw [upS_same rfl]
  rw [pF_of' (as_b hp) (by show 3 < 4; omega), e]
  exact congrArg some (aput_b hp)
theorem ldQ_a {k : Nat} (hk : k < 5) : ldQ (aset h a g rl T R X P Q) (a + 1) (nI k) = some (a + (2 + 5 * k)) := by
  simp [ldQ, as_1, nI_nn (show k < 2 ^ 31 by omega), nI_clamp (show k < 2 ^ 31 by omega), hk]
theorem gI_r {r : Nat} (hr : isR r = true) : gI (aset h a g rl T R X P Q) (a + r) 6 1 = some (R r) := gI_of' (as_r hr) rfl
theorem gA_r {r : Nat} (hr : isR r = true) : gA (aset h a g rl T R X P Q) (a + r) 6 0 = some (a + (r + 1)) := gA_of' (as_r hr) rfl
theorem aLen_r {r : Nat} (hr : isR r = true) : aLen (aset h a g rl T R X P Q) (a + (r + 1)) = some (nI (rlen r)) := aLen_of' (as_c hr) (by omega)
theorem pF_r {r : Nat} {x : Int32} (hr : isR r = true) : pF (aset h a g rl T R X P Q) (a + r) 6 1 (.int x) = some (aset h a g rl T (upd R r x) X P Q) := by
  rw [pF_of' (as_r hr) (by show 1 < 2; omega)]
  exact congrArg some (aput_r hr)
theorem ldI_r {r k : Nat} (hr : isR r = true) (hk : k < rlen r) : ldI (aset h a g rl T R X P Q) (a + (r + 1)) (nI k) = some (X r k) := ldI_of' (as_c hr) hk (by have := rlen_le r; omega)
theorem stI_r {r k : Nat} {x : Int32} (hr : isR r = true) (hk : k < rlen r) : stI (aset h a g rl T R X P Q) (a + (r + 1)) (nI k) x = some (aset h a g rl T R (updH X r (upd (X r) k x)) P Q) := by
  rw [stI_of' (as_c hr) hk (by have := rlen_le r; omega), aput_c hr]
end ASET

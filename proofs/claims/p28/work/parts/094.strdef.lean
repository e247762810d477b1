/-! ===== z: Strings: constants and made ones ===== -/
def cix (h : zH) (b : Nat) : Option Nat := match hM h b with
  | some (.inr (c, [.int x])) => if c = 15 ∧ x.toNatClampNeg < 20 then some x.toNatClampNeg else none
  | _ => none
def dyn (h : zH) (b : Nat) : Option (Nat × Nat × (Nat → Int32)) := (gA h b 13 0).bind fun v => (gI h b 13 1).bind fun c => if c = 0 then (match hM h v with
  | some (.inl (k, n, .inl f)) => if k = 2 then some (v, n, f) else none
  | _ => none) else none
def lnA (h : zH) (b : Nat) : Option Int32 := match cix h b with
  | some i => some (Int32.ofNat (zlen.getD i 0))
  | none => (dyn h b).bind fun q => some (Int32.ofNat q.2.1)
def cdA (h : zH) (b : Nat) : Option Int32 := match cix h b with
  | some _ => some 0
  | none => (dyn h b).bind fun _ => some 0
abbrev chOK (x : Int32) : Prop := ((x &&& 255).toUInt32 % 65536).toInt32 = x ∧ vp_nar .char x = x
def chA (h : zH) (b : Nat) (j : Int32) : Option Int32 := match cix h b with
  | some i => if ¬ j < 0 ∧ j.toNatClampNeg < zlen.getD i 0 then some ((zbyt.getD i []).getD j.toNatClampNeg 0) else none
  | none => (dyn h b).bind fun q => if (¬ j < 0 ∧ j.toNatClampNeg < q.2.1) ∧ j < Int32.ofNat q.2.1 ∧ chOK (q.2.2 j.toNatClampNeg) then some (q.2.2 j.toNatClampNeg) else none
def kby (i : Nat) : Nat → Int32 := fun j => (zbyt.getD i []).getD j 0
def gbS (h : zH) (b dst : Nat) (idx cod : Int32) : Option zH := if cod = 0 then (match cix h b with
  | some i => (match hM h dst with
    | some (.inl (k, n, .inl g)) => if k = 2 ∧ ¬ idx < 0 ∧ idx.toNatClampNeg + zlen.getD i 0 ≤ n then some (hPut h dst (.inl (2, n, .inl (va_cpy (kby i) g 0 idx.toNatClampNeg (zlen.getD i 0))))) else none
    | _ => none)
  | none => (dyn h b).bind fun q => cpB h q.1 0 dst idx (Int32.ofNat q.2.1)) else none
theorem cix_of {h : zH} {b i : Nat} (hc : cix h b = some i) : i < 20 ∧ ∃ x : Int32, x.toNatClampNeg = i ∧ hM h b = some (.inr (15, [.int x])) := by
  unfold cix at hc
  split at hc
  · next c x he =>
    split at hc
    · next h2 => obtain ⟨rfl, h3⟩ := h2; cases hc; exact ⟨h3, x, rfl, he⟩
    · cases hc
  · cases hc
theorem ofNat_clamp : ∀ i, i < 20 → (Int32.ofNat i).toNatClampNeg = i := by decide +kernel
theorem dyn_of {h : zH} {b : Nat} {q : Nat × Nat × (Nat → Int32)} (hd : dyn h b = some q) : gA h b 13 0 = some q.1 ∧ gI h b 13 1 = some 0 ∧ hM h q.1 = some (.inl (2, q.2.1, .inl q.2.2)) := by
  obtain ⟨v, h1, h2⟩ := Option.bind_eq_some_iff.mp hd
  obtain ⟨c, h3, h4⟩ := Option.bind_eq_some_iff.mp h2
  split at h4
  · next hc =>
    subst hc
    split at h4
    · next k n f he =>
      split at h4
      · next hk => subst hk; cases h4; exact ⟨h1, h3, he⟩
      · cases h4
    · cases h4
  · cases h4
theorem dyn_o {h : zH} {b : Nat} {q : Nat × Nat × (Nat → Int32)} (hd : dyn h b = some q) : ∃ fs, hM h b = some (.inr (13, fs)) := by
  obtain ⟨fs, h1, -⟩ := gF_of (gA_of (dyn_of hd).1)
  exact ⟨fs, h1⟩

theorem m1lt : ((-nI 1 : Int32) < nI 0) = True := eq_true (by decide)
theorem m1ne {c : Nat} (hc : c < 2 ^ 31) : ((-nI 1 : Int32) = nI c) = False := eq_false fun e => by
  have h1 : (-nI 1 : Int32) < nI 0 := of_eq_true m1lt
  rw [e] at h1
  exact nI_nn hc h1
def nxt (b : Nat → Nat) (len k : Nat) : Int32 := if k < len then nI (b k) else -nI 1
/-- what a step of the parser keeps of the model's numbers -/
def SK (S S' : Nat → Int32) : Prop := ∀ k, k ≠ 4 → k ≠ 5 → k ≠ 6 → k ≠ 12 → S' k = S k
theorem SK_rf (S : Nat → Int32) : SK S S := fun _ _ _ _ _ => rfl
theorem SK_tr {S S' S'' : Nat → Int32} (h1 : SK S S') (h2 : SK S' S'') : SK S S'' := fun k a b c d => (h2 k a b c d).trans (h1 k a b c d)
def mErr (S : Nat → Int32) (p : Nat) (code : Int32) (off : Nat) : Nat → Int32 := upd (upd (upd S 4 (nI p)) 5 code) 6 (nI off)
theorem SK_err {S : Nat → Int32} {p off : Nat} {code : Int32} : SK S (mErr S p code off) := fun k a b c d => by
  unfold mErr
  rw [upS_ne c, upS_ne b, upS_ne a]
theorem SK_4 {S : Nat → Int32} {x : Int32} : SK S (upd S 4 x) := fun k a _ _ _ => upS_ne a
theorem skp_at {b : Nat → Nat} : ∀ r p, skF b r p < p + r → b (skF b r p) ≠ 32
  | 0, p, h => absurd h (Nat.lt_irrefl p)
  | r + 1, p, h => by
    have e : skF b (r + 1) p = if b p = 32 then skF b r (p + 1) else p := rfl
    rw [e] at h ⊢
    by_cases hb : b p = 32
    · rw [if_pos hb] at h ⊢
      exact skp_at r (p + 1) (by omega)
    · rw [if_neg hb]
      exact hb
theorem skp_skp {b : Nat → Nat} {len p : Nat} (hp : p ≤ len) : skp b len (skp b len p) = skp b len p := by
  have h1 := skp_le (b := b) hp
  have h2 := skp_at (b := b) (len - p) p
  have hd : skp b len p = skF b (len - p) p := rfl
  rw [← hd] at h2
  show skF b (len - skp b len p) (skp b len p) = skp b len p
  by_cases h3 : skp b len p = len
  · rw [h3, Nat.sub_self]
    rfl
  · obtain ⟨r, hr⟩ : ∃ r, len - skp b len p = r + 1 := ⟨len - skp b len p - 1, by omega⟩
    rw [hr]
    exact if_neg (h2 (by omega))
section M99986
variable {h : zH} {m N : Nat} {S B D E : Nat → Int32} {H : Nat → Nat → Int32} {J : Nat → Int64} {L U Z W : Nat → Int32} {b : Nat → Nat} {len : Nat}
theorem nxt_y {k : Nat} (hk : k < len) : nxt b len k = nI (b k) := if_pos hk
theorem nxt_n {k : Nat} (hk : ¬ k < len) : nxt b len k = -nI 1 := if_neg hk
theorem nxt_T {k c : Nat} (hs : sgAt b len k c) : (nxt b len k = nI c) = True := by
  rw [nxt_y hs.1, hs.2]
  exact eq_true rfl
theorem nxt_F {B : Nat → Int32} {k c : Nat} (hT : TxtB B b len) (hc : c < 256) (hs : ¬ sgAt b len k c) : (nxt b len k = nI c) = False := by
  by_cases hk : k < len
  · rw [nxt_y hk]
    obtain ⟨b1, -⟩ := hT.2 k hk
    exact neqF (by omega) (by omega) (fun e => hs ⟨hk, e⟩)
  · rw [nxt_n hk]
    exact m1ne (by omega)
theorem m1lt' {c : Nat} (hc : c < 256) : ((-nI 1 : Int32) < nI c) = True := by
  have h1 : (-nI 1 : Int32) < nI 0 := of_eq_true m1lt
  refine eq_true ?_
  rw [Int32.lt_iff_toInt_lt] at h1 ⊢
  have h2 : ¬ nI c < nI 0 := nI_nn (by omega)
  rw [Int32.lt_iff_toInt_lt] at h2
  omega
theorem tkV_eq {q : Nat} (hk : tkK b len q = 1) : q < len ∧ tkV b len q = (dgs b len q).2 ∧ tkE b len q = (dgs b len q).1 := by
  unfold tkK at hk
  by_cases h1 : len ≤ q
  · rw [if_pos h1] at hk; omega
  · rw [if_neg h1] at hk
    by_cases h2 : isDg (b q) = true
    · refine ⟨by omega, ?_, ?_⟩
      · unfold tkV
        rw [if_neg h1, if_pos h2]
      · unfold tkE
        rw [if_neg h1, if_pos h2]
    · rw [if_neg h2] at hk
      split at hk <;> omega
end M99986

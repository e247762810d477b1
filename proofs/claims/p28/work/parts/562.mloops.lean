/-- r numbers from s on come from o places further -/
def shN (d : Nat → Nat) (s r o : Nat) : Nat → Nat := fun j => if s ≤ j ∧ j < s + r then d (j + o) else d j
theorem shN_0 (d : Nat → Nat) (s o : Nat) : shN d s 0 o = d := by
  funext j
  unfold shN
  rw [if_neg (by omega)]
theorem shN_step (d : Nat → Nat) (s r o : Nat) (ho : 0 < o) : shN (upN d s (d (s + o))) (s + 1) r o = shN d s (r + 1) o := by
  funext j
  unfold shN upN
  by_cases h1 : j = s
  · subst h1
    rw [if_neg (by omega), if_pos rfl, if_pos (by omega)]
  · by_cases h2 : s ≤ j ∧ j < s + (r + 1)
    · rw [if_pos (by omega), if_pos h2, if_neg (by omega)]
    · rw [if_neg (by omega), if_neg h2, if_neg h1]
theorem shN_out {d : Nat → Nat} {s r o j : Nat} (hj : j < s ∨ s + r ≤ j) : shN d s r o j = d j := if_neg (by omega)
theorem shN_in {d : Nat → Nat} {s r o j : Nat} (h1 : s ≤ j) (h2 : j < s + r) : shN d s r o j = d (j + o) := if_pos ⟨h1, h2⟩
/-- the product of elements from a place on -/
def prodF (e : Nat → Nat) : Nat → Nat → Nat → Nat
  | 0, _, acc => acc
  | r + 1, k, acc => prodF e r (k + 1) (mulN acc (e k))
theorem prodF_in {n : Nat} (hn : inN n) (e : Nat → Nat) : ∀ r k acc : Nat, acc < fctN n → (∀ j, k ≤ j → j < k + r → e j < fctN n) → prodF e r k acc < fctN n
  | 0, _, acc, ha, _ => ha
  | r + 1, k, acc, ha, he => prodF_in hn e r (k + 1) _ (mul_in hn ha (he k (by omega) (by omega))) (fun j h1 h2 => he j (by omega) (by omega))
def cpyI (F G : Nat → Int32) : Nat → Int32 := fun j => if j < 1378 then F j else G j
theorem cpyI_in {F G : Nat → Int32} {j : Nat} (hj : j < 1378) : cpyI F G j = F j := if_pos hj
theorem hPut_hPut (h : zH) (a : Nat) (e f : zE) : hPut (hPut h a e) a f = hPut h a f := by
  refine zH_ext rfl rfl fun q => ?_
  show (if q = a then some f else if q = a then some e else _) = (if q = a then some f else _)
  split <;> rfl
theorem hPut_self {h : zH} {a : Nat} {e : zE} (he : hM h a = some e) : hPut h a e = h := by
  refine zH_ext rfl rfl fun q => ?_
  show (if q = a then some e else h.2.2 q) = h.2.2 q
  split
  · next hq => subst hq; exact he.symm
  · rfl
theorem updH_eq (H : Nat → Nat → Int32) (k : Nat) (f : Nat → Int32) : updH H k f k = f := if_pos rfl
theorem updH_ne {H : Nat → Nat → Int32} {k j : Nat} {f : Nat → Int32} (hj : j ≠ k) : updH H k f j = H j := if_neg hj
section M62
variable {h : zH} {m N : Nat} {S B D E : Nat → Int32} {H : Nat → Nat → Int32} {J : Nat → Int64} {L U Z W : Nat → Int32} {d : Nat → Nat}
/-- how many are forgotten first -/
def forg (q : Nat) : Nat := if q = 8 then 1 else 0
/-- a card is dropped -/
def dropN (d : Nat → Nat) (p c : Nat) : Nat → Nat := shN (upN d (11 + 19 * p + 1) (d (11 + 19 * p + 1) - 1)) (11 + 19 * p + 3 + 2 * c) (2 * (d (11 + 19 * p + 1) - 1 - c)) 2
/-- the elements of the bids -/
def idxN (n v : Nat) : Nat := (eltN n v).getD 0
theorem idx_num {n e : Nat} (hn : inN n) (he : e < fctN n) : idxN n (numN n e) = e := by
  unfold idxN
  rw [elt_num hn he]
  rfl
def isN (n v : Nat) : Prop := ∃ e, e < fctN n ∧ v = numN n e
theorem isN_idx {n v : Nat} (hn : inN n) (hv : isN n v) : idxN n v < fctN n ∧ v = numN n (idxN n v) := by
  obtain ⟨e, he, rfl⟩ := hv
  rw [idx_num hn he]
  exact ⟨he, rfl⟩
def bidE (d : Nat → Nat) (k : Nat) : Nat := idxN (d 0) (d (118 + 3 * k + 1))
end M62

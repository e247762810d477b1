def sbR (s : Nat) : Nat → Nat → Nat → Nat
  | 0, _, acc => acc
  | r + 1, c, acc => sbR s r (c + 1) (acc + bitN s c)
theorem sbR_pop (s : Nat) : sbR s 8 0 0 = popN s := by
  have b0 : bitN s 0 = s % 2 := by unfold bitN; rw [Nat.pow_zero, Nat.div_one]
  show 0 + bitN s 0 + bitN s 1 + bitN s 2 + bitN s 3 + bitN s 4 + bitN s 5 + bitN s 6 + bitN s 7 = popN s
  rw [Nat.zero_add, b0]
  rfl
theorem cntR_countP (f : Nat → Bool) : ∀ r e acc, cntR f r e acc = acc + (List.range' e r).countP f
  | 0, e, acc => by simp [cntR]
  | r + 1, e, acc => by
    show cntR f r (e + 1) _ = _
    rw [cntR_countP f r (e + 1), List.range'_succ, List.countP_cons]
    cases f e <;> simp <;> omega
theorem cntR_range (f : Nat → Bool) (M : Nat) : cntR f M 0 0 = (List.range M).countP f := by
  rw [cntR_countP, List.range_eq_range', Nat.zero_add]
theorem cntR_more {f : Nat → Bool} : ∀ r e acc, (∀ j, e ≤ j → j < e + r → f j = false) → cntR f r e acc = acc
  | 0, _, _, _ => rfl
  | r + 1, e, acc, h => by
    show cntR f r (e + 1) _ = _
    rw [h e (Nat.le_refl e) (by omega), cntR_more r (e + 1) _ (fun j h1 h2 => h j (by omega) (by omega))]
    rfl
theorem cntR_split (f : Nat → Bool) : ∀ r s e acc, cntR f (r + s) e acc = cntR f s (e + r) (cntR f r e acc)
  | 0, s, e, acc => by rw [Nat.zero_add]; rfl
  | r + 1, s, e, acc => by
    rw [show r + 1 + s = r + s + 1 by omega]
    show cntR f (r + s) (e + 1) _ = cntR f s (e + (r + 1)) (cntR f r (e + 1) _)
    rw [cntR_split f r s (e + 1), show e + 1 + r = e + (r + 1) by omega]
theorem cntR_pi {n : Nat} {f F : Nat → Bool} (hn : inN n) (hF : ∀ e, e < fctN n → f e = F (piN n e)) : cntR f (fctN n) 0 0 = cntR F (fctN n) 0 0 := by
  have e := (pi_perm hn).countP_eq F
  rw [List.countP_map] at e
  rw [cntR_range, cntR_range, ← e]
  exact List.countP_congr (fun e he => by rw [hF e (List.mem_range.mp he)]; rfl)
section M999
variable {h : zH} {m N : Nat} {S B E : Nat → Int32} {H : Nat → Nat → Int32} {J : Nat → Int64} {L U Z W : Nat → Int32} {d : Nat → Nat}
end M999

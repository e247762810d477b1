/-! ===== chance ===== -/
def RnAt (h : zH) (rn : Nat) : Prop := ∃ sd : Int32, hM h rn = some (.inr (11, [.int sd]))
section M79
variable {M W : Nat → Prop} {h h' : zH} {b0 bu K N z m rn n : Nat} {ea : Int32} {d e : Nat → Nat} {t : Nat → Nat} {yy : Nat × (Nat → Nat → Nat) × (Nat → Nat) × (Nat → Nat → Nat)} {B : Nat → Int32} {L S : List Nat}
theorem shr16 (x : Int32) : ∃ u, u < 65536 ∧ (x.toUInt32 >>> ((16 : Int32).toUInt32 &&& Int32.toUInt32 31)).toInt32 = nI u := by
  refine ⟨ux (x.toUInt32 >>> ((16 : Int32).toUInt32 &&& Int32.toUInt32 31)).toInt32, ?_, (nI_ux _).symm⟩
  unfold ux
  rw [UInt32.toUInt32_toInt32, UInt32.toNat_shiftRight, show ((16 : Int32).toUInt32 &&& Int32.toUInt32 31).toNat = 16 by decide, Nat.shiftRight_eq_div_pow]
  have := x.toUInt32.toNat_lt
  show x.toUInt32.toNat / 2 ^ 16 < 65536
  omega
theorem L_below {bd : Nat} (hr : RnAt h rn) (h0 : 0 < bd) (h1 : bd < 2 ^ 31) : ∃ (v : Nat) (sd : Int32), v < bd ∧ (∀ F : Option (Int32 × zH), onO 11 rn h F = F) ∧ f_X11_below N rn (nI bd) h = some (nI v, hPut h rn (.inr (11, [.int sd]))) := by
  obtain ⟨sd, hm⟩ := hr
  have e1 : gI h rn 11 0 = some sd := gI_of' hm rfl
  have e2 : pF h rn 11 0 (.int (((1103515245 : Int32) * sd) + (12345 : Int32))) = some (hPut h rn (.inr (11, [.int (((1103515245 : Int32) * sd) + (12345 : Int32))]))) := pF_of' hm Nat.one_pos
  have e3 : gI (hPut h rn (.inr (11, [.int (((1103515245 : Int32) * sd) + (12345 : Int32))]))) rn 11 0 = some (((1103515245 : Int32) * sd) + (12345 : Int32)) := gI_of' hM_put_eq rfl
  obtain ⟨u, hu, e4⟩ := shr16 (((1103515245 : Int32) * sd) + (12345 : Int32))
  have e5 : zremI (nI u) (nI bd) = some (nI (u % bd)) := nremI (by omega) h0 h1
  refine ⟨u % bd, ((1103515245 : Int32) * sd) + (12345 : Int32), Nat.mod_lt _ h0, fun F => onO_of' hm, ?_⟩
  rw [f_X11_below, e1, Option.bind_some, e2, Option.bind_some, e3, Option.bind_some, e4, e5, Option.bind_some]
theorem Rn_put {sd : Int32} : RnAt (hPut h rn (.inr (11, [.int sd]))) rn ∧ FC (fun x => x = rn) 0 0 h (hPut h rn (.inr (11, [.int sd]))) := ⟨⟨sd, hM_put_eq⟩, FC_put⟩
/-- a row of points, any order -/
def PermG (n : Nat) (g : Nat → Int32) : Prop := ∃ f : Nat → Nat, (∀ i, i < n → g i = nI (f i) ∧ f i < n) ∧ ∀ i j, i < n → j < n → f i = f j → i = j
theorem perm_ex : ∀ (n : Nat), inN n → ∀ f : Nat → Nat, (∀ i, i < n → f i < n) → (∀ i j, i < n → j < n → f i = f j → i = j) → ∃ e, e < fctN n ∧ ∀ i, i < n → goalN e i = f i := by
  have chk : ∀ n, inN n → (List.range (n ^ n)).all (fun c => let f := fun i => c / n ^ i % n; (!((List.range n).all fun i => (List.range n).all fun j => Nat.beq i j || !(Nat.beq (f i) (f j)))) || (List.range (fctN n)).any fun e => (List.range n).all fun i => Nat.beq (goalN e i) (f i)) = true := by
    intro n hn
    rcases hn with rfl | rfl | rfl | rfl <;> decide +kernel
  intro n hn f hf hi
  -- the code of f
  have enc : ∀ k, ∃ c, c < n ^ k ∧ ∀ i, i < k → (i < n → c / n ^ i % n = f i) := by
    intro k
    induction k with
    | zero => exact ⟨0, by rw [Nat.pow_zero]; omega, fun i hi => absurd hi (by omega)⟩
    | succ k ih =>
      obtain ⟨c, c1, c2⟩ := ih
      have hn0 : 0 < n := by have := inN_lt hn; omega
      refine ⟨c + (f k % n) * n ^ k, ?_, fun i hik hin => ?_⟩
      · rw [Nat.pow_succ]
        have hm : f k % n < n := Nat.mod_lt _ hn0
        have : (f k % n) * n ^ k + n ^ k ≤ n * n ^ k := by
          rw [← Nat.succ_mul]
          exact Nat.mul_le_mul_right _ hm
        rw [Nat.mul_comm (n ^ k) n]
        omega
      · by_cases hk : i = k
        · subst hk
          rw [Nat.add_mul_div_right _ _ (Nat.pow_pos hn0), Nat.div_eq_of_lt c1, Nat.zero_add, Nat.mod_mod]
          exact Nat.mod_eq_of_lt (hf i hin)
        · have hlt : i < k := by omega
          obtain ⟨j, rfl⟩ : ∃ j, k = i + 1 + j := ⟨k - i - 1, by omega⟩
          have e1 : (f (i + 1 + j) % n) * n ^ (i + 1 + j) = ((f (i + 1 + j) % n) * n ^ j * n) * n ^ i := by
            rw [Nat.add_assoc, Nat.pow_add, Nat.pow_add, Nat.pow_one]
            generalize n ^ i = A
            generalize n ^ j = Bx
            rw [Nat.mul_assoc, Nat.mul_assoc, Nat.mul_comm n Bx, Nat.mul_comm A (Bx * n), Nat.mul_assoc]
          rw [e1, Nat.add_mul_div_right _ _ (Nat.pow_pos hn0), Nat.add_mul_mod_self_right]
          exact c2 i hlt hin
  obtain ⟨c, c1, c2⟩ := enc n
  have key := List.all_eq_true.mp (chk n hn) c (List.mem_range.mpr c1)
  dsimp only at key
  have inj : ((List.range n).all fun i => (List.range n).all fun j => Nat.beq i j || !(Nat.beq (c / n ^ i % n) (c / n ^ j % n))) = true := by
    refine List.all_eq_true.mpr fun i hi' => List.all_eq_true.mpr fun j hj' => ?_
    have hi2 := List.mem_range.mp hi'
    have hj2 := List.mem_range.mp hj'
    rw [c2 i hi2 hi2, c2 j hj2 hj2]
    by_cases hij : i = j
    · rw [hij, Nat.beq_refl]; rfl
    · have : Nat.beq (f i) (f j) = false := Bool.eq_false_iff.mpr (fun hq => hij (hi i j hi2 hj2 (Nat.eq_of_beq_eq_true hq)))
      rw [this]
      exact Bool.or_true _
  rw [inj] at key
  have key2 : ((List.range (fctN n)).any fun e => (List.range n).all fun i => Nat.beq (goalN e i) (c / n ^ i % n)) = true := by simpa using key
  obtain ⟨e, he, h2⟩ := List.any_eq_true.mp key2
  refine ⟨e, List.mem_range.mp he, fun i hi2 => ?_⟩
  have := List.all_eq_true.mp h2 i (List.mem_range.mpr hi2)
  rw [c2 i hi2 hi2] at this
  exact Nat.eq_of_beq_eq_true this
end M79

def d0N : Nat → Nat := upN (fun _ => 0) 0 2
section M99966
variable {GG : Nat → Option zE} {b0 N : Nat} {c : Nat → Option zE}
theorem ACF_raw {L : Nat} (hL : L + 38 ≤ 414) (h : ACF b0 (b0 + 1) L c) : aset (hC GG b0 c 414 107595) (b0 + L) (b0 + 1) (b0 + L + 35) T0 (fun _ => nI 0) (fun _ _ => nI 0) (fun _ => nI 0) (fun _ => nI 0) = hC GG b0 c 414 107595 := rs_self fun j e hj hc => by
  rw [Nat.add_assoc, hC_at (by omega), h.1 j hj]
  exact hc
theorem ACF_rule {L : Nat} (hL : L + 38 ≤ 414) (h : ACF b0 (b0 + 1) L c) : RuleAt (hC GG b0 c 414 107595) (b0 + L + 35) 1 (fun _ => 10000) := by
  obtain ⟨-, h2, h3, h4⟩ := h
  refine ⟨upd (fun _ => nI 0) 0 (-nI 1), fun _ => 0, ?_, ?_, ?_, fun k hk => ?_⟩
  · rw [show b0 + L + 35 = b0 + (L + 35) from Nat.add_assoc _ _ _, hC_at (by omega)]
    exact h2
  · rw [show b0 + L + 35 + 1 = b0 + (L + 36) from by omega, hC_at (by omega)]
    exact h3
  · rw [show b0 + L + 35 + 2 = b0 + (L + 37) from by omega, hC_at (by omega)]
    exact h4
  · have : k = 0 := by omega
    subst this
    rw [upS_eq]
    show -nI 1 = clsC 10000
    unfold clsC
    rw [if_neg (by omega)]
theorem AucR_0 : AucR d0N T0 (fun _ => nI 0) (fun _ _ => nI 0) (fun _ => nI 0) (fun _ => nI 0) := ⟨⟨rfl, rfl, rfl, rfl, rfl, rfl, rfl⟩, ⟨rfl, rfl, rfl, rfl⟩, fun l hl => absurd (show l < 0 from hl) (Nat.not_lt_zero l), fun b hb => absurd (show b < 0 from hb) (Nat.not_lt_zero b), fun p hp => absurd (show p < 0 from hp) (Nat.not_lt_zero p)⟩
theorem GoodD_0 : GoodD d0N := ⟨⟨Or.inl rfl, Nat.zero_le _, Nat.zero_le _, Nat.le_refl _, Or.inr ⟨rfl, rfl⟩, Nat.zero_le _, Or.inr ⟨rfl, rfl⟩⟩, fun b hb => absurd (show b < 0 from hb) (Nat.not_lt_zero b), fun l hl => absurd (show l < 0 from hl) (Nat.not_lt_zero l), fun p hp => absurd (show p < 0 from hp) (Nat.not_lt_zero p), Nat.zero_le _⟩
theorem CodeR_0 : CodeR d0N 1 (fun _ => 10000) := ⟨by omega, ⟨by omega, (by show 0 + (if 10004 ≤ 10000 then 1 else 2) ≤ 1200; rw [if_neg (by omega)]; omega)⟩, fun k hk => ⟨(by show 10000 ≤ 10007; omega), fun h => absurd (show 10004 ≤ 10000 from h) (by omega), fun _ => by
  have : k = 0 := by omega
  subst this
  exact Nat.zero_le _⟩, Or.inl ⟨rfl, rfl, rfl⟩⟩
end M99966

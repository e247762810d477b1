/-! ===== the start keeps the relation; the law's value ===== -/
def d0N : Nat → Nat := upN (fun _ => 0) 0 2
section M99966
variable {b0 N : Nat} {c : Nat → Option zE}
theorem ACF_raw {L : Nat} (hL : L + 38 ≤ 414) (h : ACF b0 (b0 + 1) L c) : aset (hC b0 c 414 107595) (b0 + L) (b0 + 1) (b0 + L + 35) T0 (fun _ => nI 0) (fun _ _ => nI 0) (fun _ => nI 0) (fun _ => nI 0) = hC b0 c 414 107595 := rs_self fun j e hj hc => by
  rw [Nat.add_assoc, hC_at (by omega), h.1 j hj]
  exact hc
theorem ACF_rule {L : Nat} (hL : L + 38 ≤ 414) (h : ACF b0 (b0 + 1) L c) : RuleAt (hC b0 c 414 107595) (b0 + L + 35) 1 (fun _ => 10000) := by
  obtain ⟨-, h2, h3, h4⟩ := h
  refine ⟨upd (fun _ => nI 0) 0 (-nI 1), fun _ => 0, ?_, ?_, ?_, fun k hk => ?_⟩
  · rw [show b0 + L + 35 = b0 + (L + 35) from Nat.add_assoc _ _ _, hC_at (by omega)]
    exact h2
  · rw [show b0 + L + 35 + 1 = b0 + (L + 36) from by omega, hC_at (by omega)]
    exact h3
  · rw [show b0 + L + 35 + 2 = b0 + (L + 37) from by omega, hC_at (by omega)]
    exact h4
  · have : k = 0 := by omega
    subst this
    rw [upS_eq]
    show -nI 1 = clsC 10000
    unfold clsC
    rw [if_neg (by omega)]
theorem AucR_0 : AucR d0N T0 (fun _ => nI 0) (fun _ _ => nI 0) (fun _ => nI 0) (fun _ => nI 0) := ⟨⟨rfl, rfl, rfl, rfl, rfl, rfl, rfl⟩, ⟨rfl, rfl, rfl, rfl⟩, fun l hl => absurd (show l < 0 from hl) (Nat.not_lt_zero l), fun b hb => absurd (show b < 0 from hb) (Nat.not_lt_zero b), fun p hp => absurd (show p < 0 from hp) (Nat.not_lt_zero p)⟩
theorem GoodD_0 : GoodD d0N := ⟨⟨Or.inl rfl, Nat.zero_le _, Nat.zero_le _, Nat.le_refl _, Or.inr ⟨rfl, rfl⟩, Nat.zero_le _, Or.inr ⟨rfl, rfl⟩⟩, fun b hb => absurd (show b < 0 from hb) (Nat.not_lt_zero b), fun l hl => absurd (show l < 0 from hl) (Nat.not_lt_zero l), fun p hp => absurd (show p < 0 from hp) (Nat.not_lt_zero p), Nat.zero_le _⟩
theorem CodeR_0 : CodeR d0N 1 (fun _ => 10000) := ⟨by omega, ⟨by omega, (by show 0 + (if 10004 ≤ 10000 then 1 else 2) ≤ 1200; rw [if_neg (by omega)]; omega)⟩, fun k hk => ⟨(by show 10000 ≤ 10007; omega), fun h => absurd (show 10004 ≤ 10000 from h) (by omega), fun _ => by
  have : k = 0 := by omega
  subst this
  exact Nat.zero_le _⟩, Or.inl ⟨rfl, rfl, rfl⟩⟩
theorem start_inv (hNN : 1000 < N) : ∃ h0 : zH, ((nwOb 8 [Value.null, .null, .null, .null, .null, .int (nI 0)] (b0, 0, fun _ => none)).bind fun y1 => (f_X8_init N y1.1 y1.2).bind fun y2 => (nwOb 9 [.int (nI 0), .null, .int (nI 0), .int (nI 0), .int (nI 0), .int (nI 0), .int (nI 0), .int (nI 0), .null, .null, .null, .int (nI 0), .int (nI 0), .int (nI 0), .int (nI 0), .null, .null, .null, .null, .int (nI 0), .int (nI 0), .null] y2).bind fun y3 => (f_X9_init N y3.1 y3.2).bind fun y4 => (nwJ y4 (nI 1)).bind fun y5 => some (y1.1, y3.1, y5.1, y5.2)) = some (b0, b0 + 395, b0 + 413, h0) ∧ InvL b0 107595 h0 0 := by
  obtain ⟨c, e, c0, cG, ⟨c4, c5, c6, c7⟩, aT, aN, ⟨c84, c85, aH⟩, ⟨s0, s1, s2, s3, s4⟩, cm, co⟩ := C_all (N := N) (b0 := b0) hNN
  refine ⟨hC b0 c 414 107595, e, ?_⟩
  have at0 : ∀ j, j < 414 → hM (hC b0 c 414 107595) (b0 + j) = c j := fun j hj => hC_at hj
  have hS0 : hS (hC b0 c 414 107595) = b0 + 414 := rfl
  refine ⟨⟨(d0N, 1, (fun _ => 10000), (0, (fun _ => d0N), (fun _ => 1), (fun _ _ => 10000)), -nI 1, 0, fun _ => nI 0), nI 0, ?_, ?_⟩, ⟨fun _ => 0, (at0 413 (by omega)).trans co⟩, Nat.le_refl _, Nat.le_refl _⟩
  · refine ⟨⟨⟨(at0 0 (by omega)).trans c0, cG, Nat.le_refl _⟩, ⟨fun _ => nI 0, nI 0, fun _ => nI 0, (at0 4 (by omega)).trans c4, (at0 5 (by omega)).trans c5, (at0 6 (by omega)).trans c6, (at0 7 (by omega)).trans c7⟩, ⟨nI 0, nI 0, nI 0, fun _ => nI 0, fun _ => nI 0, fun _ => 0, (at0 390 (by omega)).trans s0, (at0 391 (by omega)).trans s1, (at0 392 (by omega)).trans s2, (at0 393 (by omega)).trans s3, (at0 394 (by omega)).trans s4⟩, ⟨_, _, _, _, _, _, ACF_raw (by omega) aT, fun r hr => ⟨0, Nat.zero_le _, rfl⟩⟩, ACF_rule (by omega) aT, Nat.zero_le _, fun k hk => absurd hk (Nat.not_lt_zero k)⟩, ⟨⟨b0 + 46 + 35, T0, fun _ => nI 0, fun _ _ => nI 0, fun _ => nI 0, fun _ => nI 0, ACF_raw (by omega) aN, AucR_0, fun r hr => ⟨0, Nat.zero_le _, rfl⟩, ACF_rule (by omega) aN, by rw [hS0]; omega, Or.inl ⟨1, by omega, by omega⟩⟩, GoodD_0, CodeR_0⟩, ⟨0, by omega, by omega, (at0 84 (by omega)).trans c84, ?_, fun i hi => ?_, fun k hk => absurd hk (Nat.not_lt_zero k)⟩, fun k hk => absurd hk (Nat.not_lt_zero k)⟩
    · refine (at0 85 (by omega)).trans (c85.trans ?_)
      rfl
    · have := ACF_raw (L := 86 + 38 * i) (by omega) (aH i hi)
      rw [show b0 + (86 + 38 * i) = b0 + 86 + 38 * i by omega] at this
      exact ⟨_, _, _, _, _, _, this, fun r hr => ⟨0, Nat.zero_le _, rfl⟩⟩
  · refine ⟨fun k => if k = 7 then -nI 1 else nI 0, fun _ => nI 0, fun _ => nI 0, fun _ _ => nI 0, fun _ => 0, fun _ => nI 0, fun _ => nI 0, fun _ => nI 0, fun _ => nI 0, ?_, rfl, rfl, fun k hk => absurd hk (Nat.not_lt_zero k), rfl, rfl, Nat.zero_le _, fun k hk => absurd hk (Nat.not_lt_zero k), Or.inl rfl⟩
    have eD : dI d0N = upd (fun _ => nI 0) 0 (nI 2) := by
      funext j
      show nI (if j = 0 then 2 else 0) = if j = 0 then nI 2 else nI 0
      split <;> rfl
    refine rs_self fun j e hj hc => ?_
    rw [Nat.add_assoc, at0 _ (by omega), cm j hj, ← eD]
    exact hc
theorem z_math_of (hLoad : ∀ (b0 N : Nat), 54400 < N → ∀ (h : zH) (s : St) (x : Int32), WC b0 h s → PairW b0 (f_X8_load N b0 x) (f_X9_load N (b0 + 395) x) cSt h s) (L : Nat) (hL : L ≤ 3072) (xs : Nat → Int32) (b0 : Nat) : ∃ (N : Nat) (h' : zH), f_L_law N L xs (b0, 0, fun _ => none) = some (.inl 1, h') ∧ hS h' ≤ b0 + 601024 ∧ hN h' ≤ 7293034 := by
  obtain ⟨h0, e, hI⟩ := start_inv (N := 60000) (b0 := b0) (by omega)
  obtain ⟨h', q1, q2, q3⟩ := law_l (N := 60000) (L := L) (xs := xs) (by omega) (hLoad b0 60000 (by omega)) hL 512 0 60000 0 h0 (by omega) (by omega) (by omega) hI
  refine ⟨60000, h', ?_, by omega, Nat.le_trans q3 (by decide)⟩
  rw [f_L_law]
  obtain ⟨y1, a1, e⟩ := Option.bind_eq_some_iff.mp e
  refine bind_of a1 ?_
  obtain ⟨y2, a2, e⟩ := Option.bind_eq_some_iff.mp e
  refine bind_of a2 ?_
  obtain ⟨y3, a3, e⟩ := Option.bind_eq_some_iff.mp e
  refine bind_of a3 ?_
  obtain ⟨y4, a4, e⟩ := Option.bind_eq_some_iff.mp e
  refine bind_of a4 ?_
  obtain ⟨y5, a5, e⟩ := Option.bind_eq_some_iff.mp e
  refine bind_of a5 ?_
  simp only [Option.some.injEq, Prod.mk.injEq] at e
  obtain ⟨e1, e2, e3, e4⟩ := e
  rw [e1, e2, e3, e4]
  exact q1
end M99966

/-! ===== the class is made ===== -/
section M89
variable {GG : Nat → Option zE} {b0 len m N g : Nat} {c : Nat → Option zE}
theorem C_all (hNN : 1000 < N) (m0 : Nat) : ∃ c : Nat → Option zE, ((nwOb 8 [Value.null, .null, .null, .null, .null, .int (nI 0)] (b0, m0, GG)).bind fun y1 => (f_X8_init N y1.1 y1.2).bind fun y2 => some (y1.1, y2)) = some (b0, hC GG b0 c 395 (m0 + 6602)) ∧ c 0 = some (.inr (8, [.ref (b0 + 1), .ref (b0 + 4), .ref (b0 + 46), .ref (b0 + 84), .ref (b0 + 390), .int (-nI 1)])) ∧ GrpAt (hC GG b0 c 395 (m0 + 6602)) (b0 + 1) ∧ (c 4 = some (.inr (7, [.ref (b0 + 1), .ref (b0 + 5), .int (nI 0), .int (nI 0), .int (nI 0), .int (nI 0), .int (nI 0), .int (nI 0), .int (nI 0), .ref (b0 + 8), .ref (b0 + 6), .int (nI 0), .int (nI 0), .int (nI 0)])) ∧ c 5 = some (.inl (0, 700, .inl (fun _ => nI 0))) ∧ c 6 = some (.inr (6, [.ref (b0 + 7), .int (nI 0)])) ∧ c 7 = some (.inl (0, 700, .inl (fun _ => nI 0)))) ∧ ACF b0 (b0 + 1) 8 c ∧ ACF b0 (b0 + 1) 46 c ∧ (c 84 = some (.inr (4, [.ref (b0 + 85), .int (nI 0), .int (nI 0)])) ∧ c 85 = some (refE (rArr (b0 + 86) 8) 8) ∧ ∀ i, i < 8 → ACF b0 (b0 + 1) (86 + 38 * i) c) ∧ (c 390 = some (.inr (3, [.ref (b0 + 1), .ref (b0 + 391), .ref (b0 + 392), .ref (b0 + 393), .int (nI 0), .int (nI 0)])) ∧ c 391 = some (.inl (0, 960, .inl (fun _ => nI 0))) ∧ c 392 = some (.inl (1, 514, .inr (.inl (fun _ => 0)))) ∧ c 393 = some (.inr (6, [.ref (b0 + 394), .int (nI 0)])) ∧ c 394 = some (.inl (0, 120, .inl (fun _ => nI 0)))) := by
  have e0 : ((b0, m0, GG) : zH) = hC GG b0 (fun _ => none) 0 m0 := zH_ext rfl rfl fun q => by
    show GG q = (if b0 ≤ q ∧ q < b0 + 0 then none else GG q)
    rw [if_neg (by omega)]
  have n0 := hC_nO (GG := GG) (b0 := b0) (c := fun _ => none) (len := 0) (m := m0) (k := 8) (fs := [Value.null, .null, .null, .null, .null, .int (nI 0)])
  rw [← e0] at n0
  have z0 : nwOb 8 [Value.null, .null, .null, .null, .null, .int (nI 0)] (b0, m0, GG) = some (b0, hC GG b0 (upC (fun _ => none) 0 (.inr (8, [Value.null, .null, .null, .null, .null, .int (nI 0)]))) 1 (m0 + 6)) := n0
  -- the group
  have n1 := hC_nO (GG := GG) (b0 := b0) (c := upC (fun _ => none) 0 (.inr (8, [Value.null, .null, .null, .null, .null, .int (nI 0)]))) (len := 1) (m := m0 + 6) (k := 2) (fs := [.null, .null])
  have z1 : nwOb 2 [.null, .null] (hC GG b0 (upC (fun _ => none) 0 (.inr (8, [Value.null, .null, .null, .null, .null, .int (nI 0)]))) 1 (m0 + 6)) = some (b0 + 1, hC GG b0 (upC (upC (fun _ => none) 0 (.inr (8, [Value.null, .null, .null, .null, .null, .int (nI 0)]))) 1 (.inr (2, [.null, .null]))) (1 + 1) (m0 + 8)) := n1
  obtain ⟨cg, g1, g2, g3⟩ := C_group (N := N) (GG := GG) (b0 := b0) (len := 1) (m := m0 + 8) (c := upC (upC (fun _ => none) 0 (.inr (8, [Value.null, .null, .null, .null, .null, .int (nI 0)]))) 1 (.inr (2, [.null, .null]))) hNN (upC_eq _ _ _)
  have k0 : cg 0 = some (.inr (8, [Value.null, .null, .null, .null, .null, .int (nI 0)])) := by rw [g2 0 (by omega), upC_ne (by omega), upC_eq]
  have p0 : pF (hC GG b0 cg 4 (m0 + 1233)) b0 8 0 (.ref (b0 + 1)) = some (hC GG b0 (upC cg 0 (.inr (8, [Value.null, .null, .null, .null, .null, .int (nI 0)].set 0 (.ref (b0 + 1))))) 4 (m0 + 1233)) := hC_pF (j := 0) (by omega) k0 (by show 0 < 6; omega)
  have q0 : gA (hC GG b0 (upC (upC cg 0 (.inr (8, [Value.null, .null, .null, .null, .null, .int (nI 0)].set 0 (.ref (b0 + 1))))) 4 (.inr (7, [.null, .null, .int (nI 0), .int (nI 0), .int (nI 0), .int (nI 0), .int (nI 0), .int (nI 0), .int (nI 0), .null, .null, .int (nI 0), .int (nI 0), .int (nI 0)]))) 5 (m0 + 1247)) b0 8 0 = some (b0 + 1) := hC_gA (j := 0) (by omega) (show upC (upC cg 0 (.inr (8, [Value.null, .null, .null, .null, .null, .int (nI 0)].set 0 (.ref (b0 + 1))))) 4 (.inr (7, [.null, .null, .int (nI 0), .int (nI 0), .int (nI 0), .int (nI 0), .int (nI 0), .int (nI 0), .int (nI 0), .null, .null, .int (nI 0), .int (nI 0), .int (nI 0)])) 0 = _ by rw [upC_ne (by omega), upC_eq]) rfl
  -- the reader
  have n2 : nwOb 7 [.null, .null, .int (nI 0), .int (nI 0), .int (nI 0), .int (nI 0), .int (nI 0), .int (nI 0), .int (nI 0), .null, .null, .int (nI 0), .int (nI 0), .int (nI 0)] (hC GG b0 (upC cg 0 (.inr (8, [Value.null, .null, .null, .null, .null, .int (nI 0)].set 0 (.ref (b0 + 1))))) 4 (m0 + 1233)) = some (b0 + 4, hC GG b0 (upC (upC cg 0 (.inr (8, [Value.null, .null, .null, .null, .null, .int (nI 0)].set 0 (.ref (b0 + 1))))) 4 (.inr (7, [.null, .null, .int (nI 0), .int (nI 0), .int (nI 0), .int (nI 0), .int (nI 0), .int (nI 0), .int (nI 0), .null, .null, .int (nI 0), .int (nI 0), .int (nI 0)]))) 5 (m0 + 1247)) := hC_nO
  obtain ⟨cr, r1, r2, r3, r4, r5, r6, r7⟩ := C_reader (N := N) (GG := GG) (b0 := b0) (len := 4) (m := (m0 + 1247)) (g := b0 + 1) (c := upC (upC cg 0 (.inr (8, [Value.null, .null, .null, .null, .null, .int (nI 0)].set 0 (.ref (b0 + 1))))) 4 (.inr (7, [.null, .null, .int (nI 0), .int (nI 0), .int (nI 0), .int (nI 0), .int (nI 0), .int (nI 0), .int (nI 0), .null, .null, .int (nI 0), .int (nI 0), .int (nI 0)]))) (by omega) (upC_eq _ _ _)
  have k1 : cr 0 = some (.inr (8, [Value.null, .null, .null, .null, .null, .int (nI 0)].set 0 (.ref (b0 + 1)))) := by rw [r2 0 (by omega), upC_ne (by omega), upC_eq]
  have p1 : pF (hC GG b0 cr 46 (m0 + 2883)) b0 8 1 (.ref (b0 + 4)) = some (hC GG b0 (upC cr 0 (.inr (8, ([Value.null, .null, .null, .null, .null, .int (nI 0)].set 0 (.ref (b0 + 1))).set 1 (.ref (b0 + 4))))) 46 (m0 + 2883)) := hC_pF (j := 0) (by omega) k1 (by show 1 < 6; omega)
  -- the auction in play
  obtain ⟨cn, a1, a2, a3⟩ := C_auc (N := N) (GG := GG) (b0 := b0) (len := 46) (m := (m0 + 2883)) (g := b0 + 1) (c := upC cr 0 (.inr (8, ([Value.null, .null, .null, .null, .null, .int (nI 0)].set 0 (.ref (b0 + 1))).set 1 (.ref (b0 + 4))))) (by omega)
  have q1 : gA (hC GG b0 (upC (upC cr 0 (.inr (8, ([Value.null, .null, .null, .null, .null, .int (nI 0)].set 0 (.ref (b0 + 1))).set 1 (.ref (b0 + 4))))) 46 (.inr (0, [.null, .null, .null, .null, .null, .null, .null, .null, .int (nI 0), .int (nI 0), .int (nI 0), .int (nI 0), .int (nI 0), .int (nI 0), .int (nI 0)]))) (46 + 1) (m0 + 2883 + 15)) b0 8 0 = some (b0 + 1) := hC_gA (j := 0) (by omega) (show upC (upC cr 0 (.inr (8, ([Value.null, .null, .null, .null, .null, .int (nI 0)].set 0 (.ref (b0 + 1))).set 1 (.ref (b0 + 4))))) 46 _ 0 = _ by rw [upC_ne (by omega), upC_eq]) rfl
  have k2 : cn 0 = some (.inr (8, ([Value.null, .null, .null, .null, .null, .int (nI 0)].set 0 (.ref (b0 + 1))).set 1 (.ref (b0 + 4)))) := by rw [a2 0 (by omega), upC_eq]
  have p2 : pF (hC GG b0 cn (46 + 38) (m0 + 2883 + 234)) b0 8 2 (.ref (b0 + 46)) = some (hC GG b0 (upC cn 0 (.inr (8, (([Value.null, .null, .null, .null, .null, .int (nI 0)].set 0 (.ref (b0 + 1))).set 1 (.ref (b0 + 4))).set 2 (.ref (b0 + 46))))) 84 (m0 + 3117)) := hC_pF (j := 0) (by omega) k2 (by show 2 < 6; omega)
  -- the history
  have n4 : nwOb 4 [.null, .int (nI 0), .int (nI 0)] (hC GG b0 (upC cn 0 (.inr (8, (([Value.null, .null, .null, .null, .null, .int (nI 0)].set 0 (.ref (b0 + 1))).set 1 (.ref (b0 + 4))).set 2 (.ref (b0 + 46))))) 84 (m0 + 3117)) = some (b0 + 84, hC GG b0 (upC (upC cn 0 (.inr (8, (([Value.null, .null, .null, .null, .null, .int (nI 0)].set 0 (.ref (b0 + 1))).set 1 (.ref (b0 + 4))).set 2 (.ref (b0 + 46))))) 84 (.inr (4, [.null, .int (nI 0), .int (nI 0)]))) 85 (m0 + 3120)) := hC_nO
  have q2 : gA (hC GG b0 (upC (upC cn 0 (.inr (8, (([Value.null, .null, .null, .null, .null, .int (nI 0)].set 0 (.ref (b0 + 1))).set 1 (.ref (b0 + 4))).set 2 (.ref (b0 + 46))))) 84 (.inr (4, [.null, .int (nI 0), .int (nI 0)]))) 85 (m0 + 3120)) b0 8 0 = some (b0 + 1) := hC_gA (j := 0) (by omega) (show upC (upC cn 0 _) 84 _ 0 = _ by rw [upC_ne (by omega), upC_eq]) rfl
  obtain ⟨ch, h1, h2, h3, h4, h5⟩ := C_hist (N := N) (GG := GG) (b0 := b0) (len := 84) (m := (m0 + 3120)) (g := b0 + 1) (c := upC (upC cn 0 (.inr (8, (([Value.null, .null, .null, .null, .null, .int (nI 0)].set 0 (.ref (b0 + 1))).set 1 (.ref (b0 + 4))).set 2 (.ref (b0 + 46))))) 84 (.inr (4, [.null, .int (nI 0), .int (nI 0)]))) (by omega) (upC_eq _ _ _)
  have k3 : ch 0 = some (.inr (8, (([Value.null, .null, .null, .null, .null, .int (nI 0)].set 0 (.ref (b0 + 1))).set 1 (.ref (b0 + 4))).set 2 (.ref (b0 + 46)))) := by rw [h2 0 (by omega), upC_ne (by omega), upC_eq]
  have p3 : pF (hC GG b0 ch 390 (m0 + 5000)) b0 8 3 (.ref (b0 + 84)) = some (hC GG b0 (upC ch 0 (.inr (8, ((([Value.null, .null, .null, .null, .null, .int (nI 0)].set 0 (.ref (b0 + 1))).set 1 (.ref (b0 + 4))).set 2 (.ref (b0 + 46))).set 3 (.ref (b0 + 84))))) 390 (m0 + 5000)) := hC_pF (j := 0) (by omega) k3 (by show 3 < 6; omega)
  -- the hands
  have n5 : nwOb 3 [.null, .null, .null, .null, .int (nI 0), .int (nI 0)] (hC GG b0 (upC ch 0 (.inr (8, ((([Value.null, .null, .null, .null, .null, .int (nI 0)].set 0 (.ref (b0 + 1))).set 1 (.ref (b0 + 4))).set 2 (.ref (b0 + 46))).set 3 (.ref (b0 + 84))))) 390 (m0 + 5000)) = some (b0 + 390, hC GG b0 (upC (upC ch 0 (.inr (8, ((([Value.null, .null, .null, .null, .null, .int (nI 0)].set 0 (.ref (b0 + 1))).set 1 (.ref (b0 + 4))).set 2 (.ref (b0 + 46))).set 3 (.ref (b0 + 84))))) 390 (.inr (3, [.null, .null, .null, .null, .int (nI 0), .int (nI 0)]))) 391 (m0 + 5006)) := hC_nO
  have q3 : gA (hC GG b0 (upC (upC ch 0 (.inr (8, ((([Value.null, .null, .null, .null, .null, .int (nI 0)].set 0 (.ref (b0 + 1))).set 1 (.ref (b0 + 4))).set 2 (.ref (b0 + 46))).set 3 (.ref (b0 + 84))))) 390 (.inr (3, [.null, .null, .null, .null, .int (nI 0), .int (nI 0)]))) 391 (m0 + 5006)) b0 8 0 = some (b0 + 1) := hC_gA (j := 0) (by omega) (show upC (upC ch 0 _) 390 _ 0 = _ by rw [upC_ne (by omega), upC_eq]) rfl
  obtain ⟨cs, s1, s2, s3, s4, s5, s6, s7⟩ := C_hands (N := N) (GG := GG) (b0 := b0) (len := 390) (m := (m0 + 5006)) (g := b0 + 1) (c := upC (upC ch 0 (.inr (8, ((([Value.null, .null, .null, .null, .null, .int (nI 0)].set 0 (.ref (b0 + 1))).set 1 (.ref (b0 + 4))).set 2 (.ref (b0 + 46))).set 3 (.ref (b0 + 84))))) 390 (.inr (3, [.null, .null, .null, .null, .int (nI 0), .int (nI 0)]))) (upC_eq _ _ _)
  have k4 : cs 0 = some (.inr (8, ((([Value.null, .null, .null, .null, .null, .int (nI 0)].set 0 (.ref (b0 + 1))).set 1 (.ref (b0 + 4))).set 2 (.ref (b0 + 46))).set 3 (.ref (b0 + 84)))) := by rw [s2 0 (by omega), upC_ne (by omega), upC_eq]
  have p4 : pF (hC GG b0 cs 395 (m0 + 6602)) b0 8 4 (.ref (b0 + 390)) = some (hC GG b0 (upC cs 0 (.inr (8, (((([Value.null, .null, .null, .null, .null, .int (nI 0)].set 0 (.ref (b0 + 1))).set 1 (.ref (b0 + 4))).set 2 (.ref (b0 + 46))).set 3 (.ref (b0 + 84))).set 4 (.ref (b0 + 390))))) 395 (m0 + 6602)) := hC_pF (j := 0) (by omega) k4 (by show 4 < 6; omega)
  have p5 : pF (hC GG b0 (upC cs 0 (.inr (8, (((([Value.null, .null, .null, .null, .null, .int (nI 0)].set 0 (.ref (b0 + 1))).set 1 (.ref (b0 + 4))).set 2 (.ref (b0 + 46))).set 3 (.ref (b0 + 84))).set 4 (.ref (b0 + 390))))) 395 (m0 + 6602)) b0 8 5 (.int (-nI 1)) = some (hC GG b0 (upC (upC cs 0 (.inr (8, (((([Value.null, .null, .null, .null, .null, .int (nI 0)].set 0 (.ref (b0 + 1))).set 1 (.ref (b0 + 4))).set 2 (.ref (b0 + 46))).set 3 (.ref (b0 + 84))).set 4 (.ref (b0 + 390))))) 0 (.inr (8, [.ref (b0 + 1), .ref (b0 + 4), .ref (b0 + 46), .ref (b0 + 84), .ref (b0 + 390), .int (-nI 1)]))) 395 (m0 + 6602)) := hC_pF (j := 0) (by omega) (upC_eq _ _ _) (by show 5 < 6; omega)
  generalize hcx : upC (upC cs 0 (.inr (8, (((([Value.null, .null, .null, .null, .null, .int (nI 0)].set 0 (.ref (b0 + 1))).set 1 (.ref (b0 + 4))).set 2 (.ref (b0 + 46))).set 3 (.ref (b0 + 84))).set 4 (.ref (b0 + 390))))) 0 (.inr (8, [.ref (b0 + 1), .ref (b0 + 4), .ref (b0 + 46), .ref (b0 + 84), .ref (b0 + 390), .int (-nI 1)])) = cx at p5
  have kx : cx 0 = some (.inr (8, [.ref (b0 + 1), .ref (b0 + 4), .ref (b0 + 46), .ref (b0 + 84), .ref (b0 + 390), .int (-nI 1)])) := by rw [← hcx, upC_eq]
  have lx : ∀ j, j ≠ 0 → cx j = cs j := fun j hj => by rw [← hcx, upC_ne hj, upC_ne hj]
  have lh : ∀ j, 0 < j → j < 390 → cx j = ch j := fun j h0 hj => by rw [lx j (by omega), s2 j hj, upC_ne (by omega), upC_ne (by omega)]
  have ln : ∀ j, 0 < j → j < 84 → cx j = cn j := fun j h0 hj => by rw [lh j h0 (by omega), h2 j hj, upC_ne (by omega), upC_ne (by omega)]
  have lr : ∀ j, 0 < j → j < 46 → cx j = cr j := fun j h0 hj => by rw [ln j h0 (by omega), a2 j hj, upC_ne (by omega)]
  have lg : ∀ j, 0 < j → j < 4 → cx j = cg j := fun j h0 hj => by rw [lr j h0 (by omega), r2 j hj, upC_ne (by omega), upC_ne (by omega)]
  refine ⟨cx, ?_, kx, g3 _ (fun j hj => ?_), ⟨(lr 4 (by omega) (by omega)).trans r3, (lr 5 (by omega) (by omega)).trans r4, (lr 6 (by omega) (by omega)).trans r5, (lr 7 (by omega) (by omega)).trans r6⟩, ACF_eq r7 (fun j h1 h2 => lr j (by omega) (by omega)), ACF_eq a3 (fun j h1 h2 => ln j (by omega) (by omega)), ⟨(lh 84 (by omega) (by omega)).trans h3, (lh 85 (by omega) (by omega)).trans h4, fun i hi => ACF_eq (h5 i hi) (fun j h1 h2 => lh j (by omega) (by omega))⟩, ⟨(lx 390 (by omega)).trans s3, (lx 391 (by omega)).trans s4, (lx 392 (by omega)).trans s5, (lx 393 (by omega)).trans s6, (lx 394 (by omega)).trans s7⟩⟩
  · refine bind_of z0 ?_
    refine bind_of (a := hC GG b0 cx 395 (m0 + 6602)) ?_ ?_
    · rw [f_X8_init]
      refine bind_of z1 ?_
      refine bind_of g1 ?_
      refine bind_of p0 ?_
      refine bind_of n2 ?_
      refine bind_of q0 ?_
      refine bind_of r1 ?_
      refine bind_of p1 ?_
      refine bind_of a1.1 ?_
      refine bind_of q1 ?_
      refine bind_of a1.2 ?_
      refine bind_of p2 ?_
      refine bind_of n4 ?_
      refine bind_of q2 ?_
      refine bind_of h1 ?_
      refine bind_of p3 ?_
      refine bind_of n5 ?_
      refine bind_of q3 ?_
      refine bind_of s1 ?_
      refine bind_of p4 ?_
      refine bind_of p5 ?_
      rfl
    · rfl
  · rw [Nat.add_assoc, hC_at (by omega)]
    exact lg (1 + j) (by omega) (by omega)
theorem ACF_raw5 {L ms : Nat} (hL : L + 38 ≤ 395) (h : ACF b0 (b0 + 1) L c) : aset (hC GG b0 c 395 ms) (b0 + L) (b0 + 1) (b0 + L + 35) T0 (fun _ => nI 0) (fun _ _ => nI 0) (fun _ => nI 0) (fun _ => nI 0) = hC GG b0 c 395 ms := rs_self fun j e hj hc => by
  rw [Nat.add_assoc, hC_at (by omega), h.1 j hj]
  exact hc
theorem ACF_rule5 {L ms : Nat} (hL : L + 38 ≤ 395) (h : ACF b0 (b0 + 1) L c) : RuleAt (hC GG b0 c 395 ms) (b0 + L + 35) 1 (fun _ => 10000) := by
  obtain ⟨-, h2, h3, h4⟩ := h
  refine ⟨upd (fun _ => nI 0) 0 (-nI 1), fun _ => 0, ?_, ?_, ?_, fun k hk => ?_⟩
  · rw [show b0 + L + 35 = b0 + (L + 35) from Nat.add_assoc _ _ _, hC_at (by omega)]
    exact h2
  · rw [show b0 + L + 35 + 1 = b0 + (L + 36) from by omega, hC_at (by omega)]
    exact h3
  · rw [show b0 + L + 35 + 2 = b0 + (L + 37) from by omega, hC_at (by omega)]
    exact h4
  · have : k = 0 := by omega
    subst this
    rw [upS_eq]
    show -nI 1 = clsC 10000
    unfold clsC
    rw [if_neg (by omega)]
/-- a new object of the class -/
theorem C_new {h : zH} (hNN : 1000 < N) : ∃ h1 h', nwOb 8 [Value.null, .null, .null, .null, .null, .int (nI 0)] h = some (hS h, h1) ∧ f_X8_init N (hS h) h1 = some h' ∧ WC (hS h) h' (d0N, 1, (fun _ => 10000), (0, (fun _ => d0N), (fun _ => 1), (fun _ _ => 10000)), -nI 1, 0, fun _ => nI 0) ∧ FC nW 395 6602 h h' ∧ hS h' = hS h + 395 := by
  obtain ⟨c, e, c0, cG, ⟨c4, c5, c6, c7⟩, aT, aN, ⟨c84, c85, aH⟩, ⟨s0, s1, s2, s3, s4⟩⟩ := C_all (N := N) (b0 := hS h) (GG := h.2.2) hNN (hN h)
  have e : ((nwOb 8 [Value.null, .null, .null, .null, .null, .int (nI 0)] h).bind fun y1 => (f_X8_init N y1.1 y1.2).bind fun y2 => some (y1.1, y2)) = some (hS h, hC h.2.2 (hS h) c 395 (hN h + 6602)) := e
  obtain ⟨⟨y1, y2⟩, a1, e⟩ := Option.bind_eq_some_iff.mp e
  obtain ⟨y3, a2, e⟩ := Option.bind_eq_some_iff.mp e
  have e := Option.some.inj e
  have e3 : y1 = hS h := congrArg Prod.fst e
  have e4 : y3 = hC h.2.2 (hS h) c 395 (hN h + 6602) := congrArg Prod.snd e
  subst e3
  subst e4
  refine ⟨y2, hC h.2.2 (hS h) c 395 (hN h + 6602), a1, a2, ?_, ⟨⟨Nat.le_add_right _ _, Nat.le_refl _⟩, ⟨Nat.le_add_right _ _, Nat.le_refl _⟩, fun x hx _ => Or.inl (by
    show (if hS h ≤ x ∧ x < hS h + 395 then c (x - hS h) else h.2.2 x) = h.2.2 x
    rw [if_neg (by omega)])⟩, rfl⟩
  have at0 : ∀ j, j < 395 → hM (hC h.2.2 (hS h) c 395 (hN h + 6602)) (hS h + j) = c j := fun j hj => hC_at hj
  have hS0 : hS (hC h.2.2 (hS h) c 395 (hN h + 6602)) = hS h + 395 := rfl
  refine ⟨⟨⟨(at0 0 (by omega)).trans c0, cG, Nat.le_refl _⟩, ⟨fun _ => nI 0, nI 0, fun _ => nI 0, (at0 4 (by omega)).trans c4, (at0 5 (by omega)).trans c5, (at0 6 (by omega)).trans c6, (at0 7 (by omega)).trans c7⟩, ⟨nI 0, nI 0, nI 0, fun _ => nI 0, fun _ => nI 0, fun _ => 0, (at0 390 (by omega)).trans s0, (at0 391 (by omega)).trans s1, (at0 392 (by omega)).trans s2, (at0 393 (by omega)).trans s3, (at0 394 (by omega)).trans s4⟩, ⟨_, _, _, _, _, _, ACF_raw5 (by omega) aT, fun r hr => ⟨0, Nat.zero_le _, rfl⟩⟩, ACF_rule5 (by omega) aT, Nat.zero_le _, fun k hk => absurd hk (Nat.not_lt_zero k)⟩, ⟨⟨hS h + 46 + 35, T0, fun _ => nI 0, fun _ _ => nI 0, fun _ => nI 0, fun _ => nI 0, ACF_raw5 (by omega) aN, AucR_0, fun r hr => ⟨0, Nat.zero_le _, rfl⟩, ACF_rule5 (by omega) aN, by rw [hS0]; omega, Or.inl ⟨1, by omega, by omega⟩⟩, GoodD_0, CodeR_0⟩, ⟨0, by omega, by omega, (at0 84 (by omega)).trans c84, ?_, fun i hi => ?_, fun k hk => absurd hk (Nat.not_lt_zero k)⟩, fun k hk => absurd hk (Nat.not_lt_zero k)⟩
  · refine (at0 85 (by omega)).trans (c85.trans ?_)
    rfl
  · have := ACF_raw5 (L := 86 + 38 * i) (GG := h.2.2) (b0 := hS h) (ms := hN h + 6602) (by omega) (aH i hi)
    rw [show hS h + (86 + 38 * i) = hS h + 86 + 38 * i by omega] at this
    exact ⟨_, _, _, _, _, _, this, fun r hr => ⟨0, Nat.zero_le _, rfl⟩⟩
end M89

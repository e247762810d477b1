/-! ===== the start ===== -/
section M99965
variable {b0 len m N g : Nat} {c : Nat → Option zE}
theorem C_all (hNN : 1000 < N) : ∃ c : Nat → Option zE, ((nwOb 8 [Value.null, .null, .null, .null, .null, .int (nI 0)] (b0, 0, fun _ => none)).bind fun y1 => (f_X8_init N y1.1 y1.2).bind fun y2 => (nwOb 9 [.int (nI 0), .null, .int (nI 0), .int (nI 0), .int (nI 0), .int (nI 0), .int (nI 0), .int (nI 0), .null, .null, .null, .int (nI 0), .int (nI 0), .int (nI 0), .int (nI 0), .null, .null, .null, .null, .int (nI 0), .int (nI 0), .null] y2).bind fun y3 => (f_X9_init N y3.1 y3.2).bind fun y4 => (nwJ y4 (nI 1)).bind fun y5 => some (y1.1, y3.1, y5.1, y5.2)) = some (b0, b0 + 395, b0 + 413, hC b0 c 414 107595) ∧ c 0 = some (.inr (8, [.ref (b0 + 1), .ref (b0 + 4), .ref (b0 + 46), .ref (b0 + 84), .ref (b0 + 390), .int (-nI 1)])) ∧ GrpAt (hC b0 c 414 107595) (b0 + 1) ∧ (c 4 = some (.inr (7, [.ref (b0 + 1), .ref (b0 + 5), .int (nI 0), .int (nI 0), .int (nI 0), .int (nI 0), .int (nI 0), .int (nI 0), .int (nI 0), .ref (b0 + 8), .ref (b0 + 6), .int (nI 0), .int (nI 0), .int (nI 0)])) ∧ c 5 = some (.inl (0, 700, .inl (fun _ => nI 0))) ∧ c 6 = some (.inr (6, [.ref (b0 + 7), .int (nI 0)])) ∧ c 7 = some (.inl (0, 700, .inl (fun _ => nI 0)))) ∧ ACF b0 (b0 + 1) 8 c ∧ ACF b0 (b0 + 1) 46 c ∧ (c 84 = some (.inr (4, [.ref (b0 + 85), .int (nI 0), .int (nI 0)])) ∧ c 85 = some (refE (rArr (b0 + 86) 8) 8) ∧ ∀ i, i < 8 → ACF b0 (b0 + 1) (86 + 38 * i) c) ∧ (c 390 = some (.inr (3, [.ref (b0 + 1), .ref (b0 + 391), .ref (b0 + 392), .ref (b0 + 393), .int (nI 0), .int (nI 0)])) ∧ c 391 = some (.inl (0, 960, .inl (fun _ => nI 0))) ∧ c 392 = some (.inl (1, 514, .inr (.inl (fun _ => 0)))) ∧ c 393 = some (.inr (6, [.ref (b0 + 394), .int (nI 0)])) ∧ c 394 = some (.inl (0, 120, .inl (fun _ => nI 0)))) ∧ (∀ j, j < 18 → c (395 + j) = mcl (b0 + 395) (fun k => if k = 7 then -nI 1 else nI 0) (mca (b0 + 395) (fun _ => nI 0) (upd (fun _ => nI 0) 0 (nI 2)) (fun _ => nI 0) (fun _ _ => nI 0) (fun _ => 0) (fun _ => nI 0) (fun _ => nI 0) (fun _ => nI 0) (fun _ => nI 0)) j) ∧ c 413 = some (.inl (1, 1, .inr (.inl (fun _ => 0)))) := by
  have e0 : ((b0, 0, fun _ => none) : zH) = hC b0 (fun _ => none) 0 0 := zH_ext rfl rfl fun q => by
    show none = (if b0 ≤ q ∧ q < b0 + 0 then none else none)
    split <;> rfl
  have n0 := hC_nO (b0 := b0) (c := fun _ => none) (len := 0) (m := 0) (k := 8) (fs := [Value.null, .null, .null, .null, .null, .int (nI 0)])
  rw [← e0] at n0
  have z0 : nwOb 8 [Value.null, .null, .null, .null, .null, .int (nI 0)] (b0, 0, fun _ => none) = some (b0, hC b0 (upC (fun _ => none) 0 (.inr (8, [Value.null, .null, .null, .null, .null, .int (nI 0)]))) 1 6) := n0
  -- the group
  have n1 := hC_nO (b0 := b0) (c := upC (fun _ => none) 0 (.inr (8, [Value.null, .null, .null, .null, .null, .int (nI 0)]))) (len := 1) (m := 6) (k := 2) (fs := [.null, .null])
  have z1 : nwOb 2 [.null, .null] (hC b0 (upC (fun _ => none) 0 (.inr (8, [Value.null, .null, .null, .null, .null, .int (nI 0)]))) 1 6) = some (b0 + 1, hC b0 (upC (upC (fun _ => none) 0 (.inr (8, [Value.null, .null, .null, .null, .null, .int (nI 0)]))) 1 (.inr (2, [.null, .null]))) (1 + 1) 8) := n1
  obtain ⟨cg, g1, g2, g3⟩ := C_group (N := N) (b0 := b0) (len := 1) (m := 8) (c := upC (upC (fun _ => none) 0 (.inr (8, [Value.null, .null, .null, .null, .null, .int (nI 0)]))) 1 (.inr (2, [.null, .null]))) hNN (upC_eq _ _ _)
  have k0 : cg 0 = some (.inr (8, [Value.null, .null, .null, .null, .null, .int (nI 0)])) := by rw [g2 0 (by omega), upC_ne (by omega), upC_eq]
  have p0 : pF (hC b0 cg 4 1233) b0 8 0 (.ref (b0 + 1)) = some (hC b0 (upC cg 0 (.inr (8, [Value.null, .null, .null, .null, .null, .int (nI 0)].set 0 (.ref (b0 + 1))))) 4 1233) := hC_pF (j := 0) (by omega) k0 (by show 0 < 6; omega)
  have q0 : gA (hC b0 (upC (upC cg 0 (.inr (8, [Value.null, .null, .null, .null, .null, .int (nI 0)].set 0 (.ref (b0 + 1))))) 4 (.inr (7, [.null, .null, .int (nI 0), .int (nI 0), .int (nI 0), .int (nI 0), .int (nI 0), .int (nI 0), .int (nI 0), .null, .null, .int (nI 0), .int (nI 0), .int (nI 0)]))) 5 1247) b0 8 0 = some (b0 + 1) := hC_gA (j := 0) (by omega) (show upC (upC cg 0 (.inr (8, [Value.null, .null, .null, .null, .null, .int (nI 0)].set 0 (.ref (b0 + 1))))) 4 (.inr (7, [.null, .null, .int (nI 0), .int (nI 0), .int (nI 0), .int (nI 0), .int (nI 0), .int (nI 0), .int (nI 0), .null, .null, .int (nI 0), .int (nI 0), .int (nI 0)])) 0 = _ by rw [upC_ne (by omega), upC_eq]) rfl
  -- the reader
  have n2 : nwOb 7 [.null, .null, .int (nI 0), .int (nI 0), .int (nI 0), .int (nI 0), .int (nI 0), .int (nI 0), .int (nI 0), .null, .null, .int (nI 0), .int (nI 0), .int (nI 0)] (hC b0 (upC cg 0 (.inr (8, [Value.null, .null, .null, .null, .null, .int (nI 0)].set 0 (.ref (b0 + 1))))) 4 1233) = some (b0 + 4, hC b0 (upC (upC cg 0 (.inr (8, [Value.null, .null, .null, .null, .null, .int (nI 0)].set 0 (.ref (b0 + 1))))) 4 (.inr (7, [.null, .null, .int (nI 0), .int (nI 0), .int (nI 0), .int (nI 0), .int (nI 0), .int (nI 0), .int (nI 0), .null, .null, .int (nI 0), .int (nI 0), .int (nI 0)]))) 5 1247) := hC_nO
  obtain ⟨cr, r1, r2, r3, r4, r5, r6, r7⟩ := C_reader (N := N) (b0 := b0) (len := 4) (m := 1247) (g := b0 + 1) (c := upC (upC cg 0 (.inr (8, [Value.null, .null, .null, .null, .null, .int (nI 0)].set 0 (.ref (b0 + 1))))) 4 (.inr (7, [.null, .null, .int (nI 0), .int (nI 0), .int (nI 0), .int (nI 0), .int (nI 0), .int (nI 0), .int (nI 0), .null, .null, .int (nI 0), .int (nI 0), .int (nI 0)]))) (by omega) (upC_eq _ _ _)
  have k1 : cr 0 = some (.inr (8, [Value.null, .null, .null, .null, .null, .int (nI 0)].set 0 (.ref (b0 + 1)))) := by rw [r2 0 (by omega), upC_ne (by omega), upC_eq]
  have p1 : pF (hC b0 cr 46 2883) b0 8 1 (.ref (b0 + 4)) = some (hC b0 (upC cr 0 (.inr (8, ([Value.null, .null, .null, .null, .null, .int (nI 0)].set 0 (.ref (b0 + 1))).set 1 (.ref (b0 + 4))))) 46 2883) := hC_pF (j := 0) (by omega) k1 (by show 1 < 6; omega)
  -- the auction in play
  obtain ⟨cn, a1, a2, a3⟩ := C_auc (N := N) (b0 := b0) (len := 46) (m := 2883) (g := b0 + 1) (c := upC cr 0 (.inr (8, ([Value.null, .null, .null, .null, .null, .int (nI 0)].set 0 (.ref (b0 + 1))).set 1 (.ref (b0 + 4))))) (by omega)
  have q1 : gA (hC b0 (upC (upC cr 0 (.inr (8, ([Value.null, .null, .null, .null, .null, .int (nI 0)].set 0 (.ref (b0 + 1))).set 1 (.ref (b0 + 4))))) 46 (.inr (0, [.null, .null, .null, .null, .null, .null, .null, .null, .int (nI 0), .int (nI 0), .int (nI 0), .int (nI 0), .int (nI 0), .int (nI 0), .int (nI 0)]))) (46 + 1) (2883 + 15)) b0 8 0 = some (b0 + 1) := hC_gA (j := 0) (by omega) (show upC (upC cr 0 (.inr (8, ([Value.null, .null, .null, .null, .null, .int (nI 0)].set 0 (.ref (b0 + 1))).set 1 (.ref (b0 + 4))))) 46 _ 0 = _ by rw [upC_ne (by omega), upC_eq]) rfl
  have k2 : cn 0 = some (.inr (8, ([Value.null, .null, .null, .null, .null, .int (nI 0)].set 0 (.ref (b0 + 1))).set 1 (.ref (b0 + 4)))) := by rw [a2 0 (by omega), upC_eq]
  have p2 : pF (hC b0 cn (46 + 38) (2883 + 234)) b0 8 2 (.ref (b0 + 46)) = some (hC b0 (upC cn 0 (.inr (8, (([Value.null, .null, .null, .null, .null, .int (nI 0)].set 0 (.ref (b0 + 1))).set 1 (.ref (b0 + 4))).set 2 (.ref (b0 + 46))))) 84 3117) := hC_pF (j := 0) (by omega) k2 (by show 2 < 6; omega)
  -- the history
  have n4 : nwOb 4 [.null, .int (nI 0), .int (nI 0)] (hC b0 (upC cn 0 (.inr (8, (([Value.null, .null, .null, .null, .null, .int (nI 0)].set 0 (.ref (b0 + 1))).set 1 (.ref (b0 + 4))).set 2 (.ref (b0 + 46))))) 84 3117) = some (b0 + 84, hC b0 (upC (upC cn 0 (.inr (8, (([Value.null, .null, .null, .null, .null, .int (nI 0)].set 0 (.ref (b0 + 1))).set 1 (.ref (b0 + 4))).set 2 (.ref (b0 + 46))))) 84 (.inr (4, [.null, .int (nI 0), .int (nI 0)]))) 85 3120) := hC_nO
  have q2 : gA (hC b0 (upC (upC cn 0 (.inr (8, (([Value.null, .null, .null, .null, .null, .int (nI 0)].set 0 (.ref (b0 + 1))).set 1 (.ref (b0 + 4))).set 2 (.ref (b0 + 46))))) 84 (.inr (4, [.null, .int (nI 0), .int (nI 0)]))) 85 3120) b0 8 0 = some (b0 + 1) := hC_gA (j := 0) (by omega) (show upC (upC cn 0 _) 84 _ 0 = _ by rw [upC_ne (by omega), upC_eq]) rfl
  obtain ⟨ch, h1, h2, h3, h4, h5⟩ := C_hist (N := N) (b0 := b0) (len := 84) (m := 3120) (g := b0 + 1) (c := upC (upC cn 0 (.inr (8, (([Value.null, .null, .null, .null, .null, .int (nI 0)].set 0 (.ref (b0 + 1))).set 1 (.ref (b0 + 4))).set 2 (.ref (b0 + 46))))) 84 (.inr (4, [.null, .int (nI 0), .int (nI 0)]))) (by omega) (upC_eq _ _ _)
  have k3 : ch 0 = some (.inr (8, (([Value.null, .null, .null, .null, .null, .int (nI 0)].set 0 (.ref (b0 + 1))).set 1 (.ref (b0 + 4))).set 2 (.ref (b0 + 46)))) := by rw [h2 0 (by omega), upC_ne (by omega), upC_eq]
  have p3 : pF (hC b0 ch 390 5000) b0 8 3 (.ref (b0 + 84)) = some (hC b0 (upC ch 0 (.inr (8, ((([Value.null, .null, .null, .null, .null, .int (nI 0)].set 0 (.ref (b0 + 1))).set 1 (.ref (b0 + 4))).set 2 (.ref (b0 + 46))).set 3 (.ref (b0 + 84))))) 390 5000) := hC_pF (j := 0) (by omega) k3 (by show 3 < 6; omega)
  -- the hands
  have n5 : nwOb 3 [.null, .null, .null, .null, .int (nI 0), .int (nI 0)] (hC b0 (upC ch 0 (.inr (8, ((([Value.null, .null, .null, .null, .null, .int (nI 0)].set 0 (.ref (b0 + 1))).set 1 (.ref (b0 + 4))).set 2 (.ref (b0 + 46))).set 3 (.ref (b0 + 84))))) 390 5000) = some (b0 + 390, hC b0 (upC (upC ch 0 (.inr (8, ((([Value.null, .null, .null, .null, .null, .int (nI 0)].set 0 (.ref (b0 + 1))).set 1 (.ref (b0 + 4))).set 2 (.ref (b0 + 46))).set 3 (.ref (b0 + 84))))) 390 (.inr (3, [.null, .null, .null, .null, .int (nI 0), .int (nI 0)]))) 391 5006) := hC_nO
  have q3 : gA (hC b0 (upC (upC ch 0 (.inr (8, ((([Value.null, .null, .null, .null, .null, .int (nI 0)].set 0 (.ref (b0 + 1))).set 1 (.ref (b0 + 4))).set 2 (.ref (b0 + 46))).set 3 (.ref (b0 + 84))))) 390 (.inr (3, [.null, .null, .null, .null, .int (nI 0), .int (nI 0)]))) 391 5006) b0 8 0 = some (b0 + 1) := hC_gA (j := 0) (by omega) (show upC (upC ch 0 _) 390 _ 0 = _ by rw [upC_ne (by omega), upC_eq]) rfl
  obtain ⟨cs, s1, s2, s3, s4, s5, s6, s7⟩ := C_hands (N := N) (b0 := b0) (len := 390) (m := 5006) (g := b0 + 1) (c := upC (upC ch 0 (.inr (8, ((([Value.null, .null, .null, .null, .null, .int (nI 0)].set 0 (.ref (b0 + 1))).set 1 (.ref (b0 + 4))).set 2 (.ref (b0 + 46))).set 3 (.ref (b0 + 84))))) 390 (.inr (3, [.null, .null, .null, .null, .int (nI 0), .int (nI 0)]))) (upC_eq _ _ _)
  have k4 : cs 0 = some (.inr (8, ((([Value.null, .null, .null, .null, .null, .int (nI 0)].set 0 (.ref (b0 + 1))).set 1 (.ref (b0 + 4))).set 2 (.ref (b0 + 46))).set 3 (.ref (b0 + 84)))) := by rw [s2 0 (by omega), upC_ne (by omega), upC_eq]
  have p4 : pF (hC b0 cs 395 6602) b0 8 4 (.ref (b0 + 390)) = some (hC b0 (upC cs 0 (.inr (8, (((([Value.null, .null, .null, .null, .null, .int (nI 0)].set 0 (.ref (b0 + 1))).set 1 (.ref (b0 + 4))).set 2 (.ref (b0 + 46))).set 3 (.ref (b0 + 84))).set 4 (.ref (b0 + 390))))) 395 6602) := hC_pF (j := 0) (by omega) k4 (by show 4 < 6; omega)
  have p5 : pF (hC b0 (upC cs 0 (.inr (8, (((([Value.null, .null, .null, .null, .null, .int (nI 0)].set 0 (.ref (b0 + 1))).set 1 (.ref (b0 + 4))).set 2 (.ref (b0 + 46))).set 3 (.ref (b0 + 84))).set 4 (.ref (b0 + 390))))) 395 6602) b0 8 5 (.int (-nI 1)) = some (hC b0 (upC (upC cs 0 (.inr (8, (((([Value.null, .null, .null, .null, .null, .int (nI 0)].set 0 (.ref (b0 + 1))).set 1 (.ref (b0 + 4))).set 2 (.ref (b0 + 46))).set 3 (.ref (b0 + 84))).set 4 (.ref (b0 + 390))))) 0 (.inr (8, [.ref (b0 + 1), .ref (b0 + 4), .ref (b0 + 46), .ref (b0 + 84), .ref (b0 + 390), .int (-nI 1)]))) 395 6602) := hC_pF (j := 0) (by omega) (upC_eq _ _ _) (by show 5 < 6; omega)
  generalize hcx : upC (upC cs 0 (.inr (8, (((([Value.null, .null, .null, .null, .null, .int (nI 0)].set 0 (.ref (b0 + 1))).set 1 (.ref (b0 + 4))).set 2 (.ref (b0 + 46))).set 3 (.ref (b0 + 84))).set 4 (.ref (b0 + 390))))) 0 (.inr (8, [.ref (b0 + 1), .ref (b0 + 4), .ref (b0 + 46), .ref (b0 + 84), .ref (b0 + 390), .int (-nI 1)])) = cx at p5
  have kx : cx 0 = some (.inr (8, [.ref (b0 + 1), .ref (b0 + 4), .ref (b0 + 46), .ref (b0 + 84), .ref (b0 + 390), .int (-nI 1)])) := by rw [← hcx, upC_eq]
  have lx : ∀ j, j ≠ 0 → cx j = cs j := fun j hj => by rw [← hcx, upC_ne hj, upC_ne hj]
  -- the model
  have n6 : nwOb 9 [.int (nI 0), .null, .int (nI 0), .int (nI 0), .int (nI 0), .int (nI 0), .int (nI 0), .int (nI 0), .null, .null, .null, .int (nI 0), .int (nI 0), .int (nI 0), .int (nI 0), .null, .null, .null, .null, .int (nI 0), .int (nI 0), .null] (hC b0 cx 395 6602) = some (b0 + 395, hC b0 (upC cx 395 (.inr (9, [.int (nI 0), .null, .int (nI 0), .int (nI 0), .int (nI 0), .int (nI 0), .int (nI 0), .int (nI 0), .null, .null, .null, .int (nI 0), .int (nI 0), .int (nI 0), .int (nI 0), .null, .null, .null, .null, .int (nI 0), .int (nI 0), .null]))) 396 6624) := hC_nO
  obtain ⟨cm, m1, m2, m3⟩ := C_model (N := N) (b0 := b0) (len := 395) (m := 6624) (c := upC cx 395 (.inr (9, [.int (nI 0), .null, .int (nI 0), .int (nI 0), .int (nI 0), .int (nI 0), .int (nI 0), .int (nI 0), .null, .null, .null, .int (nI 0), .int (nI 0), .int (nI 0), .int (nI 0), .null, .null, .null, .null, .int (nI 0), .int (nI 0), .null]))) (upC_eq _ _ _)
  have n7 : nwJ (hC b0 cm 413 107594) (nI 1) = some (b0 + 413, hC b0 (upC cm 413 (.inl (1, 1, .inr (.inl (fun _ => 0))))) 414 107595) := hC_nJ (by omega)
  have lf : ∀ j, j < 395 → upC cm 413 (.inl (1, 1, .inr (.inl (fun _ => 0)))) j = cx j := fun j hj => by rw [upC_ne (by omega), m2 j hj, upC_ne (by omega)]
  have lh : ∀ j, 0 < j → j < 390 → upC cm 413 (.inl (1, 1, .inr (.inl (fun _ => 0)))) j = ch j := fun j h0 hj => by rw [lf j (by omega), lx j (by omega), s2 j hj, upC_ne (by omega), upC_ne (by omega)]
  have ln : ∀ j, 0 < j → j < 84 → upC cm 413 (.inl (1, 1, .inr (.inl (fun _ => 0)))) j = cn j := fun j h0 hj => by rw [lh j h0 (by omega), h2 j hj, upC_ne (by omega), upC_ne (by omega)]
  have lr : ∀ j, 0 < j → j < 46 → upC cm 413 (.inl (1, 1, .inr (.inl (fun _ => 0)))) j = cr j := fun j h0 hj => by rw [ln j h0 (by omega), a2 j hj, upC_ne (by omega)]
  have lg : ∀ j, 0 < j → j < 4 → upC cm 413 (.inl (1, 1, .inr (.inl (fun _ => 0)))) j = cg j := fun j h0 hj => by rw [lr j h0 (by omega), r2 j hj, upC_ne (by omega), upC_ne (by omega)]
  refine ⟨upC cm 413 (.inl (1, 1, .inr (.inl (fun _ => 0)))), ?_, (lf 0 (by omega)).trans kx, g3 _ (fun j hj => ?_), ⟨(lr 4 (by omega) (by omega)).trans r3, (lr 5 (by omega) (by omega)).trans r4, (lr 6 (by omega) (by omega)).trans r5, (lr 7 (by omega) (by omega)).trans r6⟩, ACF_eq r7 (fun j h1 h2 => lr j (by omega) (by omega)), ACF_eq a3 (fun j h1 h2 => ln j (by omega) (by omega)), ⟨(lh 84 (by omega) (by omega)).trans h3, (lh 85 (by omega) (by omega)).trans h4, fun i hi => ACF_eq (h5 i hi) (fun j h1 h2 => lh j (by omega) (by omega))⟩, ⟨?_, ?_, ?_, ?_, ?_⟩, fun j hj => ?_, upC_eq _ _ _⟩
  · refine bind_of z0 ?_
    refine bind_of (a := hC b0 cx 395 6602) ?_ ?_
    · rw [f_X8_init]
      refine bind_of z1 ?_
      refine bind_of g1 ?_
      refine bind_of p0 ?_
      refine bind_of n2 ?_
      refine bind_of q0 ?_
      refine bind_of r1 ?_
      refine bind_of p1 ?_
      refine bind_of a1.1 ?_
      refine bind_of q1 ?_
      refine bind_of a1.2 ?_
      refine bind_of p2 ?_
      refine bind_of n4 ?_
      refine bind_of q2 ?_
      refine bind_of h1 ?_
      refine bind_of p3 ?_
      refine bind_of n5 ?_
      refine bind_of q3 ?_
      refine bind_of s1 ?_
      refine bind_of p4 ?_
      refine bind_of p5 ?_
      rfl
    · refine bind_of n6 ?_
      refine bind_of m1 ?_
      refine bind_of n7 ?_
      rfl
  · have e1 : b0 + 1 + j = b0 + (1 + j) := Nat.add_assoc _ _ _
    rw [e1, hC_at (by omega)]
    exact lg (1 + j) (by omega) (by omega)
  · rw [lf 390 (by omega), lx 390 (by omega)]; exact s3
  · rw [lf 391 (by omega), lx 391 (by omega)]; exact s4
  · rw [lf 392 (by omega), lx 392 (by omega)]; exact s5
  · rw [lf 393 (by omega), lx 393 (by omega)]; exact s6
  · rw [lf 394 (by omega), lx 394 (by omega)]; exact s7
  · rw [upC_ne (by omega)]; exact m3 j hj
end M99965

/-! ===== appending, making strings ===== -/
section M82
variable {M W : Nat → Prop} {h h' : zH} {N n m bs sb v cap s : Nat} {f g : Nat → Int32} {L S : List Nat} {u : Value}
theorem Sb_o14 {β : Type} {F : Option β} (q : SbAt h sb v L) : onO 14 sb h F = F := by
  obtain ⟨cap, u, f, q1, -⟩ := q
  exact onO_of' q1
/-- a new builder -/
theorem Sb_new : ∃ h1 h2, nwOb 14 [.null, .int 0, .int 0, .int 0] h = some (hS h, h1) ∧ f_J4_init_da8c8 N (hS h) h1 = some h2 ∧ SbAt h2 (hS h) (hS h + 1) [] ∧ FC nW 2 20 h h2 := by
  have m0 : hM (hNew h (.inr (14, [.null, .int 0, .int 0, .int 0])) 4) (hS h) = some (.inr (14, [.null, .int 0, .int 0, .int 0])) := hM_new_eq
  have f0 : FC nW 1 4 h (hNew h (.inr (14, [.null, .int 0, .int 0, .int 0])) 4) := FC_new
  have s0 : hS (hNew h (.inr (14, [.null, .int 0, .int 0, .int 0])) 4) = hS h + 1 := hS_new _ _ _
  refine ⟨hNew h (.inr (14, [.null, .int 0, .int 0, .int 0])) 4, ?_⟩
  have w0 : nwOb 14 [.null, .int 0, .int 0, .int 0] h = some (hS h, hNew h (.inr (14, [.null, .int 0, .int 0, .int 0])) 4) := rfl
  generalize hNew h (.inr (14, [.null, .int 0, .int 0, .int 0])) 4 = h1 at m0 f0 s0 w0
  have w1 : nwZ h1 (nI 16) = _ := nwZ_of (by omega)
  have f1 : FC nW 1 16 h1 (hNew h1 (.inl (2, 16, .inl (fun _ => 0))) 16) := FC_new
  have m1 : hM (hNew h1 (.inl (2, 16, .inl (fun _ => 0))) 16) (hS h) = some (.inr (14, [.null, .int 0, .int 0, .int 0])) := (hM_new_ne (by omega)).trans m0
  have v1 : hM (hNew h1 (.inl (2, 16, .inl (fun _ => 0))) 16) (hS h1) = some (.inl (2, 16, .inl (fun _ => 0))) := hM_new_eq
  have s1 : hS (hNew h1 (.inl (2, 16, .inl (fun _ => 0))) 16) = hS h1 + 1 := hS_new _ _ _
  generalize hNew h1 (.inl (2, 16, .inl (fun _ => 0))) 16 = h2 at w1 f1 m1 v1 s1
  have p1 : pF h2 (hS h) 14 0 (.ref (hS h1)) = some (hPut h2 (hS h) (.inr (14, [.ref (hS h1), .int 0, .int 0, .int 0]))) := pF_of' m1 (by show 0 < 4; decide)
  have p2 : pF (hPut h2 (hS h) (.inr (14, [.ref (hS h1), .int 0, .int 0, .int 0]))) (hS h) 14 1 (.int 0) = some (hPut h2 (hS h) (.inr (14, [.ref (hS h1), .int 0, .int 0, .int 0]))) := by
    rw [pF_of' hM_put_eq (by show 1 < 4; decide), put_put]
    rfl
  have f2 : FC (fun x => x = hS h) 0 0 h2 (hPut h2 (hS h) (.inr (14, [.ref (hS h1), .int 0, .int 0, .int 0]))) := FC_put
  refine ⟨hPut h2 (hS h) (.inr (14, [.ref (hS h1), .int 0, .int 0, .int 0])), w0, ?_, ⟨16, .int 0, fun _ => 0, by rw [← s0]; exact hM_put_eq, by rw [← s0]; exact (hM_put_ne (by omega)).trans v1, ⟨by omega, by show hS h < hS h2; omega, by show hS h + 1 < hS h2; omega⟩, ⟨Nat.zero_le _, by omega⟩, fun i hi => absurd hi (Nat.not_lt_zero i), fun i _ => ⟨0, by omega, rfl⟩, fun i => by rw [getD_out (Nat.zero_le _)]; omega⟩, FC_mono (FC_tr (FC_mono (W' := fun x => x = hS h) (FC_tr f0 f1) (Nat.le_refl _) (Nat.le_refl _) (fun _ _ h => h.elim)) f2) (by omega) (by omega) (fun x hx hw => by omega)⟩
  rw [f_J4_init_da8c8, f_J5_init_d00df, if_neg (by decide), show (16 : Int32) = nI 16 from rfl, w1, Option.bind_some, p1, Option.bind_some, p2, Option.bind_some, Option.bind_some]
/-- a string goes in -/
theorem Sb_str (q : SbAt h sb v L) (st : StrAt M h s S) (hMs : M sb) (hl : L.length + S.length ≤ 64) : ∃ h' v', f_J4_append_15ec4 N sb s h = some (sb, h') ∧ SbAt h' sb v' (L ++ S) ∧ (v' = v ∨ v' = hS h) ∧ FC (bW sb v) 1 130 h h' := by
  have q0 := q
  have hS7 := Str_7 st
  obtain ⟨l1, -, -, -⟩ := Str_ln st
  obtain ⟨cap0, u0, f0, q1, q2, q3, q4, q5, q6, q7⟩ := id q
  have hv0 := q3.2.2
  have c1 : gI h sb 14 3 = some (nI L.length) := gI_of' q1 rfl
  obtain ⟨h1, v1, cap, u, f, r1, r2, r3, ⟨r4, r5, r7, r8⟩, ⟨r9, r10⟩, r11, r12, r13⟩ := Sb_room (N := N) (k := L.length + S.length) q hl (by omega)
  -- the string is no cell of ours
  have st1 : StrAt M h1 s S := by
    rcases st with ⟨i, x, k1, k2, k3⟩ | ⟨v', u', w, f9, k1, k2, k3⟩
    · exact Or.inl ⟨i, x, k1, ⟨cell_fc k2.1 k2.2.1 r13 (fun hx => k2.2.2 (by rw [hx]; exact hMs)) (fun σ e => by cases e), Nat.lt_of_lt_of_le k2.2.1 r13.1.1, k2.2.2⟩, k3⟩
    · exact Or.inr ⟨v', u', w, f9, ⟨cell_fc k1.1 k1.2.1 r13 (fun hx => k1.2.2 (by rw [hx]; exact hMs)) (fun σ e => by cases e), Nat.lt_of_lt_of_le k1.2.1 r13.1.1, k1.2.2⟩, ⟨cell_fc k2.1 k2.2.1 r13 (fun hx => k2.2.2 (by rw [hx]; exact hMs)) (fun σ e => by cases e), Nat.lt_of_lt_of_le k2.2.1 r13.1.1, k2.2.2⟩, k3⟩
  have cd : cdA h1 s = some 0 := by
    rcases st1 with ⟨i, x, k1, k2, rfl, rfl⟩ | ⟨v', u', w, f9, k1, k2, k3⟩
    · obtain ⟨a1, a2, a3, a4⟩ := ks_all ⟨i, k1⟩
      dsimp only at a2
      have hcx : cix h1 s = some i := by
        unfold cix
        rw [k2.1]
        dsimp only
        rw [a2, if_pos ⟨rfl, k1⟩]
      unfold cdA
      rw [hcx]
    · have hcx : cix h1 s = none := by
        unfold cix
        rw [k1.1]
      have hdn : dyn h1 s = some (v', S.length, f9) := by
        have e1 : gA h1 s 13 0 = some v' := gA_of' k1.1 rfl
        have e2 : gI h1 s 13 1 = some 0 := gI_of' k1.1 rfl
        unfold dyn
        rw [e1, Option.bind_some, e2, Option.bind_some, if_pos rfl, k2.1]
        rfl
      unfold cdA
      rw [hcx]
      dsimp only
      rw [hdn]
      rfl
  obtain ⟨f', g1, g2, g3, g4⟩ := gbS_of (c := L.length) st1 r3 (by omega) r10
  have d1 : gI h1 sb 14 3 = some (nI L.length) := gI_of' r2 rfl
  have d2 : gI h1 sb 14 1 = some (nI 0) := gI_of' r2 rfl
  have d3 : gA h1 sb 14 0 = some v1 := gA_of' r2 rfl
  have o0 : ∀ F : Option (Nat × zH), onO 14 sb h F = F := fun F => Sb_o14 q0
  have o0' : ∀ F : Option zH, onO 14 sb h F = F := fun F => Sb_o14 q0
  have o1 : ∀ F : Option zH, onO 14 sb h1 F = F := fun F => onO_of' r2
  have m2 : hM (hPut h1 v1 (.inl (2, cap, .inl f'))) sb = some (.inr (14, [.ref v1, .int (nI 0), u, .int (nI L.length)])) := (hM_put_ne r4).trans r2
  have d4 : gI (hPut h1 v1 (.inl (2, cap, .inl f'))) sb 14 3 = some (nI L.length) := gI_of' m2 rfl
  have p1 : pF (hPut h1 v1 (.inl (2, cap, .inl f'))) sb 14 3 (.int (nI (L.length + S.length))) = some (hPut (hPut h1 v1 (.inl (2, cap, .inl f'))) sb (.inr (14, [.ref v1, .int (nI 0), u, .int (nI (L.length + S.length))]))) := pF_of' m2 (by show 3 < 4; decide)
  have F1 : FC (fun x => x = v1) 0 0 h1 (hPut h1 v1 (.inl (2, cap, .inl f'))) := FC_put
  have F2 : FC (fun x => x = sb) 0 0 (hPut h1 v1 (.inl (2, cap, .inl f'))) (hPut (hPut h1 v1 (.inl (2, cap, .inl f'))) sb (.inr (14, [.ref v1, .int (nI 0), u, .int (nI (L.length + S.length))]))) := FC_put
  have hLl : (L ++ S).length = L.length + S.length := List.length_append
  refine ⟨_, v1, ?_, ⟨cap, u, f', by rw [hLl]; exact hM_put_eq, (hM_put_ne (Ne.symm r4)).trans hM_put_eq, ⟨r4, r7, r8⟩, ⟨by omega, r10⟩, fun i hi => ?_, fun i hi => ?_, By7_app q7 hS7⟩, r5, FC_mono (FC_tr (FC_mono (W' := bW sb v1) r13 (Nat.le_refl _) (Nat.le_refl _) (fun _ _ h => Or.inl h)) (FC_tr (FC_mono (W' := bW sb v1) F1 (Nat.le_refl _) (Nat.le_refl _) (fun _ _ h => Or.inr h)) (FC_mono (W' := bW sb v1) F2 (Nat.le_refl _) (Nat.le_refl _) (fun _ _ h => Or.inl h)))) (by omega) (by omega) (fun x hx hw => by rcases hw with hw | hw; exact Or.inl hw; rcases r5 with r5 | r5; exact Or.inr (hw.trans r5); omega)⟩
  · have inf : f_J5_inflateIfNeededFor_a7421 N sb s h1 = some h1 := by
      rw [f_J5_inflateIfNeededFor_a7421, if_neg (by decide), d2, Option.bind_some, cd, Option.bind_some, if_pos (show nI 0 = (0 : Int32) from rfl)]
    have put : f_J5_putStringAt_47b60 N sb (nI L.length) s h1 = some (hPut h1 v1 (.inl (2, cap, .inl f'))) := by
      rw [f_J5_putStringAt_47b60, o1, inf, Option.bind_some, d3, Option.bind_some, d2, Option.bind_some, g1, Option.bind_some]
    have ap : f_J5_append_cf1ce N sb s h = some (sb, hPut (hPut h1 v1 (.inl (2, cap, .inl f'))) sb (.inr (14, [.ref v1, .int (nI 0), u, .int (nI (L.length + S.length))]))) := by
      rw [f_J5_append_cf1ce, l1, Option.bind_some, c1, Option.bind_some, nadd, o0', r1, Option.bind_some, d1, Option.bind_some, o1, put, Option.bind_some, d4, Option.bind_some, nadd, p1, Option.bind_some]
    rw [f_J4_append_15ec4, o0, ap, Option.bind_some]
  · rw [hLl] at hi
    by_cases hi2 : i < L.length
    · rw [g3 i hi2, r11 i hi2, getD_l hi2]
    · obtain ⟨j, rfl⟩ : ∃ j, i = L.length + j := ⟨i - L.length, by omega⟩
      rw [g2 j (by omega), getD_r]
  · by_cases hi2 : i < L.length
    · rw [g3 i hi2]; exact r12 i hi
    · by_cases hi3 : i < L.length + S.length
      · obtain ⟨j, rfl⟩ : ∃ j, i = L.length + j := ⟨i - L.length, by omega⟩
        rw [g2 j (by omega)]
        exact ⟨_, hS7 j, rfl⟩
      · rw [g4 i (by omega)]; exact r12 i hi
/-- the string is made -/
theorem Sb_make (q : SbAt h sb v L) (b : MB M h) (hl : L.length ≤ 64) : ∃ s h', f_J4_toString_0e30d N sb h = some (s, h') ∧ StrAt M h' s L ∧ FC nW 2 134 h h' := by
  obtain ⟨cap, u, f, q1, q2, ⟨q3, q6, q7⟩, ⟨q8, q9⟩, q10, q11, q12⟩ := q
  have m0 : hM (hNew h (.inr (13, [.null, .int 0, .int 0, .int 0])) 4) (hS h) = some (.inr (13, [.null, .int 0, .int 0, .int 0])) := hM_new_eq
  have f0 : FC nW 1 4 h (hNew h (.inr (13, [.null, .int 0, .int 0, .int 0])) 4) := FC_new
  have s0 : hS (hNew h (.inr (13, [.null, .int 0, .int 0, .int 0])) 4) = hS h + 1 := hS_new _ _ _
  have w0 : nwOb 13 [.null, .int 0, .int 0, .int 0] h = some (hS h, hNew h (.inr (13, [.null, .int 0, .int 0, .int 0])) 4) := rfl
  have a1 : hM (hNew h (.inr (13, [.null, .int 0, .int 0, .int 0])) 4) sb = some (.inr (14, [.ref v, .int (nI 0), u, .int (nI L.length)])) := (hM_new_ne (by omega)).trans q1
  have a2 : hM (hNew h (.inr (13, [.null, .int 0, .int 0, .int 0])) 4) v = some (.inl (2, cap, .inl f)) := (hM_new_ne (by omega)).trans q2
  generalize hNew h (.inr (13, [.null, .int 0, .int 0, .int 0])) 4 = h1 at m0 f0 s0 w0 a1 a2
  have o1 : ∀ {β : Type} (F : Option β), onO 14 sb h1 F = F := fun F => onO_of' a1
  have e1 : gA h1 sb 14 0 = some v := gA_of' a1 rfl
  have e2 : gI h1 sb 14 3 = some (nI L.length) := gI_of' a1 rfl
  have e3 : gI h1 sb 14 1 = some 0 := gI_of' a1 rfl
  have p1 : pF h1 (hS h) 13 1 (.int 0) = some (hPut h1 (hS h) (.inr (13, [.null, .int 0, .int 0, .int 0]))) := pF_of' m0 (by show 1 < 4; decide)
  rw [put_self m0] at p1
  have l1 : aLen h1 v = some (nI cap) := aLen_of' a2 (by decide)
  -- the copy of the bytes
  have cpy : ∃ f', f_J7_copyOfRange_39247 N v (nI 0) (nI L.length) h1 = some (hS h1, hNew h1 (.inl (2, L.length, .inl f')) L.length) ∧ ∀ i, i < L.length → f' i = nI (L.getD i 0) := by
    by_cases hc : L.length = cap
    · refine ⟨f, ?_, q10⟩
      have cl : cnB h1 v = some (hS h1, hNew h1 (.inl (2, cap, .inl f)) cap) := by
        unfold cnB
        rw [a2]
        dsimp only
        rw [if_pos ⟨rfl, fun i hi => by
          obtain ⟨x, x1, x2⟩ := q11 i hi
          rw [x2]
          exact fit_of x1⟩]
      rw [f_J7_copyOfRange_39247, if_pos (show nI 0 = (0 : Int32) from rfl), l1, Option.bind_some, if_pos (by rw [hc]), cl, Option.bind_some, hc]
    · refine ⟨va_cpy f (fun _ => 0) 0 0 L.length, ?_, fun i hi => by rw [va_cpy0, if_pos hi]; exact q10 i hi⟩
      have w1 : nwZ h1 (nI L.length) = _ := nwZ_of (by omega)
      have hm2 : hM (hNew h1 (.inl (2, L.length, .inl (fun _ => 0))) L.length) v = some (.inl (2, cap, .inl f)) := (hM_new_ne (by omega)).trans a2
      have l2 : aLen (hNew h1 (.inl (2, L.length, .inl (fun _ => 0))) L.length) v = some (nI cap) := aLen_of' hm2 (by decide)
      have mi := x_min (N := N) (x := cap) (y := L.length) (k := hNew h1 (.inl (2, L.length, .inl (fun _ => 0))) L.length) (by omega) (by omega)
      rw [Nat.min_eq_right q8] at mi
      have cp := cpB_of (h := hNew h1 (.inl (2, L.length, .inl (fun _ => 0))) L.length) (a0 := v) (v := hS h1) (dp := 0) (k := L.length) hm2 hM_new_eq q8 (by omega) (by omega) (fun i hi => q11 i (by omega))
      rw [new_put] at cp
      have z1 : ∀ k, k < 1000 → nI k - nI 0 = nI k := fun k hk => by rw [nsub (Nat.zero_le _), Nat.sub_zero]
      have cr : f_J7_copyOfRangeByte_39247 N v (nI 0) (nI L.length) h1 = some (hS h1, hNew h1 (.inl (2, L.length, .inl (va_cpy f (fun _ => 0) 0 0 L.length))) L.length) := by
        rw [f_J7_copyOfRangeByte_39247, f_J7_checkLength_df160, if_pos (of_eq_true (nleT (by omega) (Nat.zero_le _))), Option.bind_some, z1 _ (by omega), w1, Option.bind_some, l2, Option.bind_some, z1 _ (by omega), mi, Option.bind_some]
        show (cpB (hNew h1 (.inl (2, L.length, .inl (fun _ => 0))) L.length) v (nI 0) (hS h1) (nI 0) (nI L.length)).bind _ = _
        rw [cp, Option.bind_some]
      rw [f_J7_copyOfRange_39247, if_pos (show nI 0 = (0 : Int32) from rfl), l1, Option.bind_some, if_neg (of_eq_false (neqF (by omega) (by omega) hc)), f_J7_copyOfRange_39247_j10, cr, Option.bind_some]
  obtain ⟨f', c1, c2⟩ := cpy
  have F1 : FC nW 1 L.length h1 (hNew h1 (.inl (2, L.length, .inl f')) L.length) := FC_new
  have m3 : hM (hNew h1 (.inl (2, L.length, .inl f')) L.length) (hS h) = some (.inr (13, [.null, .int 0, .int 0, .int 0])) := (hM_new_ne (by omega)).trans m0
  have p2 : pF (hNew h1 (.inl (2, L.length, .inl f')) L.length) (hS h) 13 0 (.ref (hS h1)) = some (hPut (hNew h1 (.inl (2, L.length, .inl f')) L.length) (hS h) (.inr (13, [.ref (hS h1), .int 0, .int 0, .int 0]))) := pF_of' m3 (by show 0 < 4; decide)
  have F2 : FC (fun x => x = hS h) 0 0 (hNew h1 (.inl (2, L.length, .inl f')) L.length) (hPut (hNew h1 (.inl (2, L.length, .inl f')) L.length) (hS h) (.inr (13, [.ref (hS h1), .int 0, .int 0, .int 0]))) := FC_put
  have sN : hS (hNew h1 (.inl (2, L.length, .inl f')) L.length) = hS h1 + 1 := hS_new _ _ _
  refine ⟨hS h, _, ?_, Or.inr ⟨hS h1, .int 0, .int 0, f', ⟨hM_put_eq, by show hS h < hS (hNew h1 (.inl (2, L.length, .inl f')) L.length); omega, fun h9 => by have := b _ h9; omega⟩, ⟨(hM_put_ne (by omega)).trans hM_new_eq, by show hS h1 < hS (hNew h1 (.inl (2, L.length, .inl f')) L.length); omega, fun h9 => by have := b _ h9; omega⟩, q12, by omega, c2⟩, FC_mono (FC_tr (FC_mono (W' := fun x => x = hS h) (FC_tr f0 F1) (Nat.le_refl _) (Nat.le_refl _) (fun _ _ h => h.elim)) F2) (by omega) (by omega) (fun x hx hw => by omega)⟩
  have ini : f_J0_init_db425 N (hS h) sb h1 = some (hPut (hNew h1 (.inl (2, L.length, .inl f')) L.length) (hS h) (.inr (13, [.ref (hS h1), .int 0, .int 0, .int 0]))) := by
    have g1 : f_J5_getValue_6d5f1 N sb h1 = some (v, h1) := by rw [f_J5_getValue_6d5f1, e1, Option.bind_some]
    have g2 : f_J4_length_8abf5 N sb h1 = some (nI L.length, h1) := by rw [f_J4_length_8abf5, o1, f_J5_length_8abf5, e2, Option.bind_some, Option.bind_some]
    have g3 : f_J5_isLatin1_aae02 N sb h1 = some ((1 : Int32), h1) := by rw [f_J5_isLatin1_aae02, if_neg (by decide), e3, Option.bind_some, if_pos rfl]
    rw [f_J0_init_db425, o1, g1, Option.bind_some, o1, g2, Option.bind_some, o1, g3, Option.bind_some, if_neg (show ¬ (1 : Int32) = 0 by decide), p1, Option.bind_some, show (0 : Int32) = nI 0 from rfl, c1, Option.bind_some]
    show (pF (hNew h1 (.inl (2, L.length, .inl f')) L.length) (hS h) 13 0 (.ref (hS h1))).bind _ = _
    rw [p2]
    rfl
  rw [f_J4_toString_0e30d, w0, Option.bind_some, f_J0_init_81219, ini, Option.bind_some, Option.bind_some]
end M82

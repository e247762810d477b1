/-! ===== chance makes rows and nodes ===== -/
section M80
variable {M W : Nat → Prop} {h h' : zH} {N n rn c : Nat}
theorem Rn_fc {W : Nat → Prop} {a m : Nat} (hr : RnAt h rn) (f : FC W a m h h') (h1 : rn < hS h) (hw : ¬ W rn) : RnAt h' rn := by
  obtain ⟨sd, h2⟩ := hr
  exact ⟨sd, cell_fc h2 h1 f hw (fun σ e => by cases e)⟩
theorem rand_l (hn : inN n) (hrc : rn ≠ c) : ∀ (r fu : Nat) (g : Nat → Int32) (h : zH), r < n → r < fu → hM h c = some (.inl (0, n, .inl g)) → PermG n g → RnAt h rn → ∃ g' h', f_L_random_l9 N rn c fu (nI r) h = some (c, h') ∧ hM h' c = some (.inl (0, n, .inl g')) ∧ PermG n g' ∧ RnAt h' rn ∧ FC (fun x => x = rn ∨ x = c) 0 0 h h' := by
  have h9 := inN_lt hn
  intro r
  induction r with
  | zero =>
    intro fu g h hr hf hm hp hR
    obtain ⟨f, rfl⟩ : ∃ f, fu = f + 1 := ⟨fu - 1, by omega⟩
    refine ⟨g, h, ?_, hm, hp, hR, FC_rf⟩
    rw [f_L_random_l9]
    simp (disch := omega) only [nlit, nleT, ↓reduceIte]
  | succ r ih =>
    intro fu g h hr hf hm hp hR
    obtain ⟨f, rfl⟩ : ∃ f, fu = f + 1 := ⟨fu - 1, by omega⟩
    obtain ⟨j, sd, b1, b2, b3⟩ := L_below (N := N) (bd := r + 1 + 1) hR (by omega) (by omega)
    obtain ⟨R1, F1⟩ := Rn_put (h := h) (rn := rn) (sd := sd)
    have hm1 : hM (hPut h rn (.inr (11, [.int sd]))) c = some (.inl (0, n, .inl g)) := (hM_put_ne (Ne.symm hrc)).trans hm
    generalize hPut h rn (.inr (11, [.int sd])) = h1 at b3 R1 F1 hm1
    have l1 : ldI h1 c (nI (r + 1)) = some (g (r + 1)) := ldI_of' hm1 hr (by omega)
    have l2 : ldI h1 c (nI j) = some (g j) := ldI_of' hm1 (by omega) (by omega)
    have s1 : stI h1 c (nI (r + 1)) (g j) = some (hPut h1 c (.inl (0, n, .inl (upd g (r + 1) (g j))))) := stI_of' hm1 hr (by omega)
    have s2 : stI (hPut h1 c (.inl (0, n, .inl (upd g (r + 1) (g j))))) c (nI j) (g (r + 1)) = some (hPut h1 c (.inl (0, n, .inl (upd (upd g (r + 1) (g j)) j (g (r + 1)))))) := by rw [stI_of' hM_put_eq (by omega) (by omega), put_put]
    have F2 : FC (fun x => x = c) 0 0 h1 (hPut h1 c (.inl (0, n, .inl (upd (upd g (r + 1) (g j)) j (g (r + 1)))))) := FC_put
    have hp2 : PermG n (upd (upd g (r + 1) (g j)) j (g (r + 1))) := by
      obtain ⟨q, q1, q2⟩ := hp
      have hu : ∀ i, upd (upd g (r + 1) (g j)) j (g (r + 1)) i = g (if i = j then r + 1 else if i = r + 1 then j else i) := fun i => by
        by_cases hij : i = j
        · rw [if_pos hij, hij]; exact upS_eq _ _ _
        · rw [if_neg hij, upS_ne hij]
          by_cases hir : i = r + 1
          · rw [if_pos hir, hir]; exact upS_eq _ _ _
          · rw [if_neg hir]; exact upS_ne hir
      refine ⟨fun i => q (if i = j then r + 1 else if i = r + 1 then j else i), fun i hi => ?_, fun i k hi hk he => ?_⟩
      · rw [hu]
        exact q1 _ (by split <;> (try split) <;> omega)
      · have := q2 _ _ (by split <;> (try split) <;> omega) (by split <;> (try split) <;> omega) he
        split at this <;> split at this <;> (try split at this) <;> (try split at this) <;> omega
    obtain ⟨g', h', i1, i2, i3, i4, i5⟩ := ih f _ _ (by omega) (by omega) hM_put_eq hp2 ⟨R1.choose, (hM_put_ne hrc).trans R1.choose_spec⟩
    refine ⟨g', h', ?_, i2, i3, i4, FC_mono (FC_tr (FC_mono F1 (Nat.le_refl _) (Nat.le_refl _) (fun x _ hx => Or.inl hx)) (FC_tr (FC_mono F2 (Nat.le_refl _) (Nat.le_refl _) (fun x _ hx => Or.inr hx)) i5)) (by omega) (by omega) (fun _ _ h => h)⟩
    rw [f_L_random_l9]
    simp (disch := omega) only [nlit, nleF, nadd, b2, b3, l1, l2, s1, s2, npred, i1, Option.bind_some, ↓reduceIte]
/-- an element by chance -/
theorem L_random (hNN : 1000 < N) (hn : inN n) (hR : RnAt h rn) (hrn : rn < hS h) : ∃ g h' e, f_L_random N rn (nI n) h = some (hS h, h') ∧ e < fctN n ∧ hM h' (hS h) = some (.inl (0, n, .inl g)) ∧ (∀ i, i < n → g i = nI (goalN e i)) ∧ RnAt h' rn ∧ FC (fun x => x = rn) 1 n h h' ∧ hS h' = hS h + 1 := by
  have h9 := inN_lt hn
  obtain ⟨g0, a1, a2⟩ := L_neutral (N := N) (h := h) hNN hn
  have f0 : FC nW 1 n h (hNew h (.inl (0, n, .inl g0)) n) := FC_new
  obtain ⟨g, h', b1, b2, b3, b4, b5⟩ := rand_l (N := N) (n := n) (rn := rn) (c := hS h) hn (by omega) (n - 1) N g0 (hNew h (.inl (0, n, .inl g0)) n) (by omega) (by omega) hM_new_eq ⟨fun i => i, fun i hi => ⟨by rw [a2 i hi, gid0 i (by omega)], hi⟩, fun i j _ _ hij => hij⟩ (Rn_fc hR f0 hrn (fun h => h))
  obtain ⟨q, q1, q2⟩ := b3
  obtain ⟨e, e1, e2⟩ := perm_ex n hn q (fun i hi => (q1 i hi).2) q2
  refine ⟨g, h', e, ?_, e1, b2, fun i hi => by rw [e2 i hi]; exact (q1 i hi).1, b4, FC_mono (FC_tr (FC_mono (W' := fun x => x = rn ∨ x = hS h) f0 (Nat.le_refl _) (Nat.le_refl _) (fun _ _ h => h.elim)) b5) (by omega) (by omega) (fun x hx hw => by rcases hw with hw | hw; exact hw; omega), by have h1 := b5.1.1; have h2 := b5.1.2; rw [hS_new] at h1 h2; omega⟩
  simp (disch := omega) only [f_L_random, a1, nlit, nsub, b1, Option.bind_some]
end M80

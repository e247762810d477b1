/-! ===== a new auction of the law ===== -/
def ow4 (M : Nat → Prop) (a : Nat) : Nat → Prop := fun x => M x ∨ x = a ∨ x = a + 1 ∨ x = a + 2 ∨ x = a + 3
section M86
variable {M W : Nat → Prop} {h h' : zH} {N n c m a b0 bu K : Nat} {d t : Nat → Nat} {yy : Nat × (Nat → Nat → Nat) × (Nat → Nat) × (Nat → Nat → Nat)} {ea : Int32} {L : List Nat} {κ : Nat → Nat}
theorem ow4_up : ∀ y, y < hS h → ow4 M (hS h) y → M y := fun y hy hm => by rcases hm with hm | hm | hm | hm | hm; exact hm; all_goals omega
/-- one more field, over a row that has just been made -/
theorem nsw {h : zH} {e e1 e2 : zE} {n m a : Nat} (hm : hM h a = some e) (ha : a < hS h) : hPut (hNew (hPut h a e1) e n) a e2 = hPut (hNew h e n) a e2 := zH_ext rfl rfl fun q => by
  show (if q = a then some e2 else if q = (hPut h a e1).1 then some e else if q = a then some e1 else h.2.2 q) = (if q = a then some e2 else if q = h.1 then some e else h.2.2 q)
  by_cases hq : q = a
  · rw [if_pos hq, if_pos hq]
  · rw [if_neg hq, if_neg hq, if_neg hq]
    rfl
theorem S_new (b : MB M h) : ∃ h1 h2, nwOb 12 [.int 0, .null, .null, .null, .null, .int 0, .int 0, .null, .int 0, .int 0, .int 0, .null] h = some (hS h, h1) ∧ f_X12_init N (hS h) h1 = some h2 ∧ SaleAt (ow4 M (hS h)) h2 (hS h) (hS h + 1) (hS h + 2) (hS h + 3) d0N 1 (fun _ => 10000) ∧ FC nW 6 12 h h2 ∧ hS h2 = hS h + 6 ∧ hM h2 (hS h) = some (saleO (hS h + 1) (hS h + 2) (hS h + 3) (hS h + 4) (hS h + 5) .null d0N) ∧ hM h2 (hS h + 5) = some (rfA 0 5 (fun _ => none)) := by
  have w0 : nwOb 12 [.int 0, .null, .null, .null, .null, .int 0, .int 0, .null, .int 0, .int 0, .int 0, .null] h = some (hS h, hNew h (.inr (12, [.int 0, .null, .null, .null, .null, .int 0, .int 0, .null, .int 0, .int 0, .int 0, .null])) 12) := rfl
  have m0 : hM (hNew h (.inr (12, [.int 0, .null, .null, .null, .null, .int 0, .int 0, .null, .int 0, .int 0, .int 0, .null])) 12) (hS h) = some (.inr (12, [.int 0, .null, .null, .null, .null, .int 0, .int 0, .null, .int 0, .int 0, .int 0, .null])) := hM_new_eq
  have f0 : FC nW 1 12 h (hNew h (.inr (12, [.int 0, .null, .null, .null, .null, .int 0, .int 0, .null, .int 0, .int 0, .int 0, .null])) 12) := FC_new
  have s0 : hS (hNew h (.inr (12, [.int 0, .null, .null, .null, .null, .int 0, .int 0, .null, .int 0, .int 0, .int 0, .null])) 12) = hS h + 1 := hS_new _ _ _
  refine ⟨hNew h (.inr (12, [.int 0, .null, .null, .null, .null, .int 0, .int 0, .null, .int 0, .int 0, .int 0, .null])) 12, ?_⟩
  generalize hNew h (.inr (12, [.int 0, .null, .null, .null, .null, .int 0, .int 0, .null, .int 0, .int 0, .int 0, .null])) 12 = h1 at w0 m0 f0 s0
  -- a step: a new row and its field
  have stp : ∀ (k : zH) (fs : List Value) (i : Nat) (e : zE), hM k (hS h) = some (.inr (12, fs)) → hS h < hS k → i < fs.length → ∃ k', pF (hNew k e 0) (hS h) 12 i (.ref (hS k)) = some k' ∧ hM k' (hS h) = some (.inr (12, fs.set i (.ref (hS k)))) ∧ hM k' (hS k) = some e ∧ hS k' = hS k + 1 ∧ FC (fun x => x = hS h) 1 0 k k' := fun k fs i e hk hs hi => by
    have m1 : hM (hNew k e 0) (hS h) = some (.inr (12, fs)) := (hM_new_ne (by omega)).trans hk
    have f1 : FC nW 1 0 k (hNew k e 0) := FC_new
    have f2 : FC (fun x => x = hS h) 0 0 (hNew k e 0) (hPut (hNew k e 0) (hS h) (.inr (12, fs.set i (.ref (hS k))))) := FC_put
    exact ⟨_, pF_of' m1 hi, hM_put_eq, (hM_put_ne (by omega)).trans hM_new_eq, hS_new k e 0, FC_mono (FC_tr (FC_mono (W' := fun x => x = hS h) f1 (Nat.le_refl _) (Nat.le_refl _) (fun _ _ h => h.elim)) f2) (by omega) (by omega) (fun _ _ h => h)⟩
  have p0 : pF h1 (hS h) 12 0 (.int (nI 2)) = some (hPut h1 (hS h) (.inr (12, [.int (nI 2), .null, .null, .null, .null, .int 0, .int 0, .null, .int 0, .int 0, .int 0, .null]))) := pF_of' m0 (by show 0 < 12; decide)
  have g0 : FC (fun x => x = hS h) 0 0 h1 (hPut h1 (hS h) (.inr (12, [.int (nI 2), .null, .null, .null, .null, .int 0, .int 0, .null, .int 0, .int 0, .int 0, .null]))) := FC_put
  have t0 : hM (hPut h1 (hS h) (.inr (12, [.int (nI 2), .null, .null, .null, .null, .int 0, .int 0, .null, .int 0, .int 0, .int 0, .null]))) (hS h) = some (.inr (12, [.int (nI 2), .null, .null, .null, .null, .int 0, .int 0, .null, .int 0, .int 0, .int 0, .null])) := hM_put_eq
  have r0 : hS (hPut h1 (hS h) (.inr (12, [.int (nI 2), .null, .null, .null, .null, .int 0, .int 0, .null, .int 0, .int 0, .int 0, .null]))) = hS h + 1 := s0
  generalize hPut h1 (hS h) (.inr (12, [.int (nI 2), .null, .null, .null, .null, .int 0, .int 0, .null, .int 0, .int 0, .int 0, .null])) = k0 at p0 g0 t0 r0
  obtain ⟨k1, p1, t1, u1, r1, g1⟩ := stp k0 _ 1 (.inl (0, 0, .inl (fun _ => nI 0))) t0 (by omega) (by show 1 < 12; decide)
  obtain ⟨k2, p2, t2, u2, r2, g2⟩ := stp k1 _ 2 (.inl (0, 0, .inl (fun _ => nI 0))) t1 (by omega) (by show 2 < 12; decide)
  obtain ⟨k3, p3, t3, u3, r3, g3⟩ := stp k2 _ 3 (rfA 0 6 (fun _ => none)) t2 (by omega) (by show 3 < 12; decide)
  obtain ⟨k4, p4, t4, u4, r4, g4⟩ := stp k3 _ 4 (.inl (0, 0, .inl (fun _ => nI 0))) t3 (by omega) (by show 4 < 12; decide)
  obtain ⟨k5, p5, t5, u5, r5, g5⟩ := stp k4 _ 7 (rfA 0 5 (fun _ => none)) t4 (by omega) (by show 7 < 12; decide)
  have n1 : nwI k0 (nI 0) = _ := nwI_of (by omega)
  have n2 : nwI k1 (nI 0) = _ := nwI_of (by omega)
  have n3 : nwR k2 (nI 0) = _ := nwR_of (by omega)
  have n4 : nwI k3 (nI 0) = _ := nwI_of (by omega)
  have n5 : nwQ 5 k4 (nI 0) = _ := nwQ5_of (by omega)
  have kp : ∀ {k k' : zH} {x : Nat} {e : zE}, hM k x = some e → x < hS k → x ≠ hS h → FC (fun x => x = hS h) 1 0 k k' → (∀ σ : Nat → Int64, e ≠ .inl (1, 11, .inr (.inl σ))) → hM k' x = some e := fun {k k' x e} hx hl hne f hn => cell_fc hx hl f hne hn
  have c1 : hM k5 (hS h + 1) = some (.inl (0, 0, .inl (fun _ => nI 0))) := by
    rw [r0] at u1
    exact kp (kp (kp (kp u1 (by omega) (by omega) g2 (fun σ e => by cases e)) (by omega) (by omega) g3 (fun σ e => by cases e)) (by omega) (by omega) g4 (fun σ e => by cases e)) (by omega) (by omega) g5 (fun σ e => by cases e)
  have c2 : hM k5 (hS h + 2) = some (.inl (0, 0, .inl (fun _ => nI 0))) := by
    rw [show hS k1 = hS h + 2 by omega] at u2
    exact kp (kp (kp u2 (by omega) (by omega) g3 (fun σ e => by cases e)) (by omega) (by omega) g4 (fun σ e => by cases e)) (by omega) (by omega) g5 (fun σ e => by cases e)
  have c3 : hM k5 (hS h + 3) = some (rfA 0 6 (fun _ => none)) := by
    rw [show hS k2 = hS h + 3 by omega] at u3
    exact kp (kp u3 (by omega) (by omega) g4 (fun σ e => by cases e)) (by omega) (by omega) g5 (fun σ e => by cases e)
  have c4 : hM k5 (hS h + 4) = some (.inl (0, 0, .inl (fun _ => nI 0))) := by
    rw [show hS k3 = hS h + 4 by omega] at u4
    exact kp u4 (by omega) (by omega) g5 (fun σ e => by cases e)
  have c5 : hM k5 (hS h + 5) = some (rfA 0 5 (fun _ => none)) := by
    rw [show hS k4 = hS h + 5 by omega] at u5
    exact u5
  have nM : ∀ x, hS h + 3 < x → ¬ ow4 M (hS h) x := fun x hx hm => by
    rcases hm with hm | hm
    · have := b _ hm; omega
    · omega
  have t5' : hM k5 (hS h) = some (saleO (hS h + 1) (hS h + 2) (hS h + 3) (hS h + 4) (hS h + 5) .null d0N) := by
    rw [t5, show hS k0 = hS h + 1 by omega, show hS k1 = hS h + 2 by omega, show hS k2 = hS h + 3 by omega, show hS k3 = hS h + 4 by omega, show hS k4 = hS h + 5 by omega]
    rfl
  refine ⟨k5, w0, ?_, ⟨hS h + 4, hS h + 5, .null, t5', ⟨⟨by omega, by omega, by omega, by omega⟩, ⟨Or.inr (Or.inl rfl), Or.inr (Or.inr (Or.inl rfl)), Or.inr (Or.inr (Or.inr (Or.inl rfl))), Or.inr (Or.inr (Or.inr (Or.inr rfl)))⟩, ⟨by omega, by omega, by omega, by omega, by omega, by omega⟩, by omega, by omega⟩, fun _ => nI 0, fun _ => nI 0, fun _ => nI 0, fun _ => none, c1, c2, c3, ⟨c4, by omega, nM _ (by omega)⟩, fun p hp => absurd hp (Nat.not_lt_zero p), fun l hl => absurd hl (Nat.not_lt_zero l), ⟨fun _ => none, ⟨c5, by omega, nM _ (by omega)⟩, fun i hi => absurd hi (Nat.not_lt_zero i)⟩, Or.inl ⟨rfl, rfl, rfl⟩⟩, FC_mono (FC_tr (FC_mono (W' := fun x => x = hS h) f0 (Nat.le_refl _) (Nat.le_refl _) (fun _ _ h => h.elim)) (FC_tr g0 (FC_tr g1 (FC_tr g2 (FC_tr g3 (FC_tr g4 g5)))))) (by omega) (by omega) (fun x hx hw => by omega), by omega, t5', c5⟩
  simp only [f_X12_init, nlit, p0, n1, p1, n2, p2, n3, p3, n4, p4, n5, p5, Option.bind_some]
end M86

/-! ===== the text of an expression ===== -/
def upM (M : Nat → Prop) (b : Nat) : Nat → Prop := fun x => M x ∨ b ≤ x
def lnB : Nat → Nat
  | 0 => 5
  | n + 1 => 2 * lnB n + 5
def txC : Nat → Nat
  | 0 => 6
  | n + 1 => 14 + 2 * txC n
def txS : Nat → Nat
  | 0 => 414
  | n + 1 => 1088 + 2 * txS n
section M84
variable {M W : Nat → Prop} {h h' : zH} {N n m sb v s a lev : Nat} {L S : List Nat} {κ : Nat → Nat} {C : List Nat} {X : Nat → List Nat}
theorem Str_up (st : StrAt M h s S) : StrAt (upM M (hS h)) h s S := StrAt_M st (fun y hy hm => by rcases hm with hm | hm; exact hm; omega)
theorem K20_up (st : K20 M κ h) : K20 (upM M (hS h)) κ h := K20_M st (fun y hy hm => by rcases hm with hm | hm; exact hm; omega)
theorem Node_up {a : Nat} (st : NodeAt M h n a C X) : NodeAt (upM M (hS h)) h n a C X := NodeAt_M (fun y hy hm => by rcases hm with hm | hm; exact hm; omega) n a C X st
theorem nW_any {M : Nat → Prop} : ∀ y, nW y → M y := fun y hy => hy.elim
theorem FC_bW {h0 h1 h2 : zH} {c c' m m' : Nat} (f : FC nW c m h0 h1) (g : FC (bW sb v) c' m' h1 h2) (h3 : hS h0 ≤ sb ∧ hS h0 ≤ v) : FC nW (c + c') (m + m') h0 h2 := FC_mono (FC_tr (FC_mono (W' := bW sb v) f (Nat.le_refl _) (Nat.le_refl _) (fun _ _ h => h.elim)) g) (Nat.le_refl _) (Nat.le_refl _) (fun x hx hw => by rcases hw with hw | hw <;> omega)
theorem Sb_fc {c m : Nat} (q : SbAt h sb v L) (f : FC nW c m h h') : SbAt h' sb v L := by
  obtain ⟨cap, u, g, q1, q2, ⟨q3, q4, q5⟩, q6⟩ := q
  have := f.1.1
  exact ⟨cap, u, g, cell_fc q1 q4 f (fun h => h) (fun σ e => by cases e), cell_fc q2 q5 f (fun h => h) (fun σ e => by cases e), ⟨q3, by omega, by omega⟩, q6⟩
/-- brackets -/
theorem Tx_wrap {s3 : Nat} (b : MB M h) (k20 : K20 M κ h) (st : StrAt M h s3 S) (hl : S.length ≤ 60) : ∃ s h', ((nwOb 14 [.null, .int 0, .int 0, .int 0] h).bind fun y17 => (f_J4_init_da8c8 N y17.1 y17.2).bind fun y18 => (onO 14 y17.1 y18 (f_J4_append_15ec4 N y17.1 (κ 18) y18)).bind fun y19 => (onO 14 y19.1 y19.2 (f_J4_append_15ec4 N y19.1 s3 y19.2)).bind fun y20 => (onO 14 y20.1 y20.2 (f_J4_append_15ec4 N y20.1 (κ 19) y20.2)).bind fun y21 => (onO 14 y21.1 y21.2 (f_J4_toString_0e30d N y21.1 y21.2)).bind fun y22 => some (y22.1, y22.2)) = some (s, h') ∧ StrAt M h' s ([40] ++ S ++ [41]) ∧ FC nW 7 544 h h' := by
  obtain ⟨h1, h2, w1, w2, q2, f2⟩ := Sb_new (N := N) (h := h)
  have kU := K20_up k20
  have sU := Str_up st
  have u0 : upM M (hS h) (hS h) := Or.inr (Nat.le_refl _)
  obtain ⟨h3, v3, a1, a2, a3, a4⟩ := Sb_str (N := N) (M := upM M (hS h)) (S := kS 18) q2 (K20_fc kU f2 nW_any 18 (by omega)) u0 (by have : (kS 18).length = 1 := rfl; show 0 + _ ≤ _; omega)
  have f3 := FC_bW f2 a4 ⟨Nat.le_refl _, by omega⟩
  have v3' : hS h ≤ v3 := by have := f2.1.1; rcases a3 with a3 | a3 <;> omega
  have k18 : ([] : List Nat) ++ kS 18 = [40] := rfl
  rw [k18] at a2
  obtain ⟨h4, v4, b1, b2', b3, b4⟩ := Sb_str (N := N) (M := upM M (hS h)) (S := S) a2 (StrAt_fc sU f3 nW_any) u0 (by show 1 + _ ≤ _; omega)
  have f4 := FC_bW f3 b4 ⟨Nat.le_refl _, v3'⟩
  have v4' : hS h ≤ v4 := by have := f3.1.1; rcases b3 with b3 | b3 <;> omega
  have l4 : ([40] ++ S).length = 1 + S.length := List.length_append
  obtain ⟨h5, v5, c1, c2, c3, c4⟩ := Sb_str (N := N) (M := upM M (hS h)) (S := kS 19) b2' (K20_fc kU f4 nW_any 19 (by omega)) u0 (by have : (kS 19).length = 1 := rfl; omega)
  have f5 := FC_bW f4 c4 ⟨Nat.le_refl _, v4'⟩
  have k19 : kS 19 = [41] := rfl
  rw [k19] at c2
  obtain ⟨s, h', d1, d2, d3⟩ := Sb_make (N := N) (M := M) c2 (MB_fc b f5) (by rw [List.length_append, l4]; show 1 + S.length + 1 ≤ 64; omega)
  refine ⟨s, h', ?_, d2, FC_mono (FC_tr f5 d3) (by omega) (by omega) (fun _ _ h => h)⟩
  have o2 : ∀ F : Option (Nat × zH), onO 14 (hS h) h2 F = F := fun F => Sb_o14 q2
  have o3 : ∀ F : Option (Nat × zH), onO 14 (hS h) h3 F = F := fun F => Sb_o14 a2
  have o4 : ∀ F : Option (Nat × zH), onO 14 (hS h) h4 F = F := fun F => Sb_o14 b2'
  have o5 : ∀ F : Option (Nat × zH), onO 14 (hS h) h5 F = F := fun F => Sb_o14 c2
  simp only [w1, w2, o2, a1, o3, b1, o4, c1, o5, d1, Option.bind_some]
theorem opS {o : Nat} (ho : o < 4) : kS (14 + o) = opX o := by
  rcases (show o = 0 ∨ o = 1 ∨ o = 2 ∨ o = 3 by omega) with rfl | rfl | rfl | rfl <;> rfl
theorem op_len (o : Nat) : (opX o).length ≤ 3 := by
  unfold opX
  split
  · decide
  · split
    · decide
    · split <;> decide
theorem L_text : ∀ (n fu : Nat) (M : Nat → Prop) (h : zH) (a : Nat) (C : List Nat) (X : Nat → List Nat), 1000 < N → n < fu → n ≤ 2 → NodeAt M h n a C X → MB M h → K20 M κ h → ∀ lev, lev ≤ 3 → ∃ s h', f_X10_textN N κ fu a (nI lev) h = some (s, h') ∧ StrAt M h' s (X lev) ∧ (X lev).length ≤ lnB n ∧ FC nW (txC n) (txS n) h h' := by
  have lf : ∀ (n fu : Nat) (M : Nat → Prop) (h : zH) (a : Nat) (C : List Nat) (X : Nat → List Nat), 1000 < N → 0 < fu → LeafAt M h a C X → MB M h → K20 M κ h → ∀ lev, lev ≤ 3 → ∃ s h', f_X10_textN N κ fu a (nI lev) h = some (s, h') ∧ StrAt M h' s (X lev) ∧ (X lev).length ≤ 5 ∧ FC nW 6 414 h h' := by
    intro n fu M h a C X hNN hf hl b k20 lev hlev
    obtain ⟨f, rfl⟩ : ∃ f, fu = f + 1 := ⟨fu - 1, by omega⟩
    show ∃ s h', f_X10_text N κ (f_X10_textN N κ f) a (nI lev) h = some (s, h') ∧ _
    obtain ⟨v, l, r, ⟨h1, h2, -, h4⟩ | ⟨h1, h2, -, h4⟩⟩ := hl
    · rw [h4]
      have e0 : gI h a 10 0 = some (nI 0) := gI_of' h1.1 rfl
      obtain ⟨k1, k2, w1, w2, q2, f2⟩ := Sb_new (N := N) (h := h)
      have u0 : upM M (hS h) (hS h) := Or.inr (Nat.le_refl _)
      obtain ⟨k3, v3, a1, a2, a3, a4⟩ := Sb_str (N := N) (M := upM M (hS h)) (S := kS 13) q2 (K20_fc (K20_up k20) f2 nW_any 13 (by omega)) u0 (by have : (kS 13).length = 0 := rfl; show 0 + _ ≤ _; omega)
      have f3 := FC_bW f2 a4 ⟨Nat.le_refl _, by omega⟩
      have v3' : hS h ≤ v3 := by have := f2.1.1; rcases a3 with a3 | a3 <;> omega
      have k13 : ([] : List Nat) ++ kS 13 = [] := rfl
      rw [k13] at a2
      obtain ⟨k4, v4, b1, b2', b3, b4⟩ := Sb_int (N := N) hNN a2 h2 (by show 0 ≤ 60; omega)
      have f4 := FC_bW f3 b4 ⟨Nat.le_refl _, v3'⟩
      rw [List.nil_append] at b2'
      have dl := (digX_ok (show v < 100000 by omega)).2.2.2
      obtain ⟨s, h', d1, d2, d3⟩ := Sb_make (N := N) (M := M) b2' (MB_fc b f4) (by omega)
      have e1 : gI k3 a 10 1 = some (nI v) := gI_of' (cell_fc h1.1 h1.2.1 f3 (fun h => h) (fun σ e => by cases e)) rfl
      have o2 : ∀ F : Option (Nat × zH), onO 14 (hS h) k2 F = F := fun F => Sb_o14 q2
      have o3 : ∀ F : Option (Nat × zH), onO 14 (hS h) k3 F = F := fun F => Sb_o14 a2
      have o4 : ∀ F : Option (Nat × zH), onO 14 (hS h) k4 F = F := fun F => Sb_o14 b2'
      refine ⟨s, h', ?_, d2, dl, FC_mono (FC_tr f4 d3) (by omega) (by omega) (fun _ _ h => h)⟩
      rw [f_X10_text, e0, Option.bind_some, if_pos (show nI 0 = (0 : Int32) from rfl)]
      simp only [w1, w2, o2, a1, o3, e1, b1, o4, d1, Option.bind_some]
    · rw [h4]
      have e0 : gI h a 10 0 = some (nI 1) := gI_of' h1.1 rfl
      have e1 : gI h a 10 1 = some (nI v) := gI_of' h1.1 rfl
      have hv : kS (5 + v) = varX v := by
        rcases (show v = 0 ∨ v = 1 ∨ v = 2 ∨ v = 3 by omega) with rfl | rfl | rfl | rfl <;> rfl
      have hvl : (varX v).length ≤ 5 := by
        rcases (show v = 0 ∨ v = 1 ∨ v = 2 ∨ v = 3 by omega) with rfl | rfl | rfl | rfl <;> decide
      refine ⟨κ (5 + v), h, ?_, by rw [← hv]; exact k20 _ (by omega), hvl, FC_mono FC_rf (by omega) (by omega) (fun _ _ h => h)⟩
      have lv : ldV κ (nI v) = some (κ (5 + v)) := by
        unfold ldV
        rw [nI_clamp (by omega), if_pos ⟨nI_nn (by omega), h2⟩]
      rw [f_X10_text, e0, Option.bind_some, if_neg (show ¬ nI 1 = (0 : Int32) by decide), Option.bind_some, if_pos (show nI 1 = (1 : Int32) from rfl), e1, Option.bind_some, lv, Option.bind_some]
  intro n
  induction n with
  | zero => exact fun fu M h a C X hNN hf _ hl b k20 lev hlev => lf 0 fu M h a C X hNN hf hl b k20 lev hlev
  | succ n ih =>
    intro fu M h a C X hNN hf hn2 hl b k20 lev hlev
    rcases hl with hl | ⟨o, l, r, y, Cl, Cr, Xl, Xr, h1, h2, h3, h4, h5, h6⟩
    · obtain ⟨s, h', t1, t2, t3, t4⟩ := lf 0 fu M h a C X hNN (by omega) hl b k20 lev hlev
      exact ⟨s, h', t1, t2, by show _ ≤ 2 * lnB n + 5; omega, FC_mono t4 (by show 6 ≤ 14 + 2 * txC n; omega) (by show 414 ≤ 1088 + 2 * txS n; omega) (fun _ _ h => h)⟩
    · obtain ⟨f, rfl⟩ : ∃ f, fu = f + 1 := ⟨fu - 1, by omega⟩
      have ob : lnB n ≤ 15 := by
        rcases (show n = 0 ∨ n = 1 by omega) with rfl | rfl <;> decide
      have how : (if o < 2 then 1 else 2) ≤ 2 := by split <;> omega
      generalize hw : (if o < 2 then 1 else 2) = own at how
      -- the builder
      obtain ⟨k1, k2, w1, w2, q2, f2⟩ := Sb_new (N := N) (h := h)
      have s2 := f2.1.1
      have kU := K20_up k20
      have lU := Node_up h3
      have rU := Node_up h4
      have u0 : upM M (hS h) (hS h) := Or.inr (Nat.le_refl _)
      obtain ⟨cap2, -, -, -, -, ⟨-, qs1, qs2⟩, -⟩ := id q2
      -- left
      have M2 : ∀ y, y < hS k2 → (M y ∨ y = hS h ∨ y = hS h + 1) → upM M (hS h) y := fun y _ hy => by rcases hy with hy | hy | hy; exact Or.inl hy; exact Or.inr (by omega); exact Or.inr (by omega)
      have B2 : MB (fun x => M x ∨ x = hS h ∨ x = hS h + 1) k2 := fun x hx => by
        rcases hx with hx | hx | hx
        · exact MB_fc b f2 x hx
        · omega
        · omega
      obtain ⟨sl, k3, a1, a2, a3, a4⟩ := ih f (fun x => M x ∨ x = hS h ∨ x = hS h + 1) k2 l Cl Xl hNN (by omega) (by omega) (NodeAt_M M2 n l Cl Xl (NodeAt_fc f2 nW_any n l Cl Xl lU)) B2 (K20_M (K20_fc kU f2 nW_any) M2) own (by omega)
      have f3 := FC_tr f2 a4
      have q3 := Sb_fc q2 a4
      -- it goes in
      obtain ⟨k4, v4, b1, b2', b3, b4⟩ := Sb_str (N := N) (S := Xl own) q3 a2 (Or.inr (Or.inl rfl)) (by show 0 + _ ≤ _; omega)
      have f4 := FC_bW f3 b4 ⟨Nat.le_refl _, by omega⟩
      have v4' : hS h ≤ v4 := by have := f3.1.1; rcases b3 with b3 | b3 <;> omega
      rw [List.nil_append] at b2'
      -- the sign
      have hol := op_len o
      obtain ⟨k5, v5, c1, c2, c3, c4⟩ := Sb_str (N := N) (M := upM M (hS h)) (S := kS (14 + o)) b2' (K20_fc kU f4 nW_any (14 + o) (by omega)) u0 (by rw [opS h1]; omega)
      have f5 := FC_bW f4 c4 ⟨Nat.le_refl _, v4'⟩
      have v5' : hS h ≤ v5 := by have := f4.1.1; rcases c3 with c3 | c3 <;> omega
      rw [opS h1] at c2
      obtain ⟨cap5, -, -, -, -, ⟨-, qs3, qs4⟩, -⟩ := id c2
      -- right
      have M5 : ∀ y, y < hS k5 → (M y ∨ y = hS h ∨ y = v5) → upM M (hS h) y := fun y _ hy => by rcases hy with hy | hy | hy; exact Or.inl hy; exact Or.inr (by omega); exact Or.inr (by omega)
      have B5 : MB (fun x => M x ∨ x = hS h ∨ x = v5) k5 := fun x hx => by
        rcases hx with hx | hx | hx
        · exact MB_fc b f5 x hx
        · omega
        · omega
      obtain ⟨sr, k6, d1, d2, d3, d4⟩ := ih f (fun x => M x ∨ x = hS h ∨ x = v5) k5 r Cr Xr hNN (by omega) (by omega) (NodeAt_M M5 n r Cr Xr (NodeAt_fc f5 nW_any n r Cr Xr rU)) B5 (K20_M (K20_fc kU f5 nW_any) M5) (own + 1) (by omega)
      have f6 := FC_tr f5 d4
      have q6 := Sb_fc c2 d4
      have l6 : (Xl own ++ opX o).length = (Xl own).length + (opX o).length := List.length_append
      obtain ⟨k7, v7, e1, e2, e3, e4⟩ := Sb_str (N := N) (S := Xr (own + 1)) q6 d2 (Or.inr (Or.inl rfl)) (by omega)
      have f7 := FC_bW f6 e4 ⟨Nat.le_refl _, v5'⟩
      have l7 : (Xl own ++ opX o ++ Xr (own + 1)).length = (Xl own).length + (opX o).length + (Xr (own + 1)).length := by rw [List.length_append, l6]
      obtain ⟨s3, k8, g1, g2, g3⟩ := Sb_make (N := N) (M := M) e2 (MB_fc b f7) (by omega)
      have f8 := FC_tr f7 g3
      -- the readings
      have ga : ∀ {k : zH} {c m : Nat}, FC nW c m h k → gI k a 10 0 = some (nI (2 + o)) ∧ gA k a 10 2 = some l ∧ gA k a 10 3 = some r := fun {k c m} fk => by
        have hk := cell_fc h2.1 h2.2.1 fk (fun h => h) (fun σ e => by cases e)
        exact ⟨gI_of' hk rfl, gA_of' hk rfl, gA_of' hk rfl⟩
      have on10 : ∀ (nn xx : Nat) (CC : List Nat) (XX : Nat → List Nat) (MM : Nat → Prop) (k : zH), NodeAt MM k nn xx CC XX → ∀ F : Option (Nat × zH), onO 10 xx k F = F := by
        intro nn xx CC XX MM k hk F
        cases nn with
        | zero => obtain ⟨v, l2, r2, g | g⟩ := hk <;> exact onO_of' g.1.1
        | succ nn => rcases hk with ⟨v, l2, r2, g | g⟩ | ⟨_, _, _, _, _, _, _, _, _, g, -⟩
                     · exact onO_of' g.1.1
                     · exact onO_of' g.1.1
                     · exact onO_of' g.1
      have onl := on10 n l Cl Xl _ k2 (NodeAt_fc f2 nW_any n l Cl Xl lU)
      have onr := on10 n r Cr Xr _ k5 (NodeAt_fc f5 nW_any n r Cr Xr rU)
      have o3 : ∀ F : Option (Nat × zH), onO 14 (hS h) k3 F = F := fun F => Sb_o14 q3
      have o4 : ∀ F : Option (Nat × zH), onO 14 (hS h) k4 F = F := fun F => Sb_o14 b2'
      have o6 : ∀ F : Option (Nat × zH), onO 14 (hS h) k6 F = F := fun F => Sb_o14 q6
      have o7 : ∀ F : Option (Nat × zH), onO 14 (hS h) k7 F = F := fun F => Sb_o14 e2
      have hX : X lev = if own < lev then [40] ++ (Xl own ++ opX o ++ Xr (own + 1)) ++ [41] else Xl own ++ opX o ++ Xr (own + 1) := by rw [h6, ← hw]; rfl
      -- the last join
      have j120 : f_X10_text_j120 N κ (f_X10_textN N κ f) a (nI lev) (nI own) (hS h) (κ (14 + o)) k4 = if nI lev ≤ nI own then some (s3, k8) else (nwOb 14 [.null, .int 0, .int 0, .int 0] k8).bind fun y17 => (f_J4_init_da8c8 N y17.1 y17.2).bind fun y18 => (onO 14 y17.1 y18 (f_J4_append_15ec4 N y17.1 (κ 18) y18)).bind fun y19 => (onO 14 y19.1 y19.2 (f_J4_append_15ec4 N y19.1 s3 y19.2)).bind fun y20 => (onO 14 y20.1 y20.2 (f_J4_append_15ec4 N y20.1 (κ 19) y20.2)).bind fun y21 => (onO 14 y21.1 y21.2 (f_J4_toString_0e30d N y21.1 y21.2)).bind fun y22 => some (y22.1, y22.2) := by
        rw [f_X10_text_j120, o4, c1, Option.bind_some, (ga f5).2.2, Option.bind_some, onr, show (1 : Int32) = nI 1 from rfl, nadd, d1, Option.bind_some, o6, e1, Option.bind_some, o7, g1, Option.bind_some]
      have j60 : f_X10_text N κ (f_X10_textN N κ f) a (nI lev) h = f_X10_text_j120 N κ (f_X10_textN N κ f) a (nI lev) (nI own) (hS h) (κ (14 + o)) k4 := by
        have t60 : f_X10_text_j60 N κ (f_X10_textN N κ f) a (nI lev) (nI own) h = f_X10_text_j120 N κ (f_X10_textN N κ f) a (nI lev) (nI own) (hS h) (κ (14 + o)) k4 := by
          rw [f_X10_text_j60, w1, Option.bind_some, w2, Option.bind_some, (ga f2).2.1, Option.bind_some, onl, a1, Option.bind_some, o3, b1, Option.bind_some, (ga f4).1]
          rcases (show o = 0 ∨ o = 1 ∨ o = 2 ∨ o = 3 by omega) with rfl | rfl | rfl | rfl
          · rw [Option.bind_some, if_pos (show nI (2 + 0) = (2 : Int32) from rfl)]
          · rw [Option.bind_some, if_neg (show ¬ nI (2 + 1) = (2 : Int32) by decide), Option.bind_some, if_pos (show nI (2 + 1) = (3 : Int32) from rfl)]
          · rw [Option.bind_some, if_neg (show ¬ nI (2 + 2) = (2 : Int32) by decide), Option.bind_some, if_neg (show ¬ nI (2 + 2) = (3 : Int32) by decide), Option.bind_some, if_pos (show nI (2 + 2) = (4 : Int32) from rfl)]
          · rw [Option.bind_some, if_neg (show ¬ nI (2 + 3) = (2 : Int32) by decide), Option.bind_some, if_neg (show ¬ nI (2 + 3) = (3 : Int32) by decide), Option.bind_some, if_neg (show ¬ nI (2 + 3) = (4 : Int32) by decide)]
        have g0 := (ga (FC_rf (W := nW) (h := h))).1
        rw [← t60, f_X10_text, g0, Option.bind_some, show (0 : Int32) = nI 0 from rfl, if_neg (of_eq_false (neqF (by omega) (by omega) (by omega))), Option.bind_some, show (1 : Int32) = nI 1 from rfl, if_neg (of_eq_false (neqF (by omega) (by omega) (by omega))), Option.bind_some, show (4 : Int32) = nI 4 from rfl]
        by_cases ho : o < 2
        · rw [if_pos ho] at hw
          rw [if_neg (of_eq_false (nleF (by omega) (by omega))), ← hw]
        · rw [if_neg ho] at hw
          rw [if_pos (of_eq_true (nleT (by omega) (by omega))), ← hw]
          rfl
      by_cases hp : own < lev
      · obtain ⟨s, h', t1, t2, t3⟩ := Tx_wrap (N := N) (MB_fc b f8) (K20_M (K20_fc kU f8 nW_any) (fun y _ hy => Or.inl hy)) g2 (by omega)
        refine ⟨s, h', ?_, by rw [hX, if_pos hp]; exact t2, ?_, FC_mono (FC_tr f8 t3) (by show _ ≤ 14 + 2 * txC n; omega) (by show _ ≤ 1088 + 2 * txS n; omega) (fun _ _ h => h)⟩
        · show f_X10_text N κ (f_X10_textN N κ f) a (nI lev) h = _
          rw [j60, j120, if_neg (of_eq_false (nleF (by omega) hp))]
          exact t1
        · rw [hX, if_pos hp, List.length_append, List.length_append, l7]
          show 1 + _ + 1 ≤ 2 * lnB n + 5
          omega
      · refine ⟨s3, k8, ?_, by rw [hX, if_neg hp]; exact g2, ?_, FC_mono f8 (by show _ ≤ 14 + 2 * txC n; omega) (by show _ ≤ 1088 + 2 * txS n; omega) (fun _ _ h => h)⟩
        · show f_X10_text N κ (f_X10_textN N κ f) a (nI lev) h = _
          rw [j60, j120, if_pos (of_eq_true (nleT (by omega) (by omega)))]
        · rw [hX, if_neg hp, l7]
          show _ ≤ 2 * lnB n + 5
          omega
end M84

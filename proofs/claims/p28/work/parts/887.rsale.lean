/-! ===== the auction by chance, whole ===== -/
section M887
variable {M M' W : Nat → Prop} {h h' : zH} {N n c m a pu wo ha lo bi P b0 bu K k v : Nat} {tv : Value} {d e t : Nat → Nat} {ea : Int32} {L S : List Nat} {κ : Nat → Nat} {fp : Nat → Int32}
theorem NodeAt_up {n n' r : Nat} {C : List Nat} {X : Nat → List Nat} (hn : n ≤ n') : NodeAt M h n r C X → NodeAt M h n' r C X := by
  induction n' generalizing n r C X with
  | zero => intro hh; have : n = 0 := by omega
            subst this; exact hh
  | succ n' ih =>
    intro hh
    cases n with
    | zero => exact Or.inl hh
    | succ n =>
      rcases hh with hh | ⟨o, l, r', y, Cl, Cr, Xl, Xr, h1, h2, h3, h4, h5⟩
      · exact Or.inl hh
      · exact Or.inr ⟨o, l, r', y, Cl, Cr, Xl, Xr, h1, h2, ih (by omega) h3, ih (by omega) h4, h5⟩
theorem pr_eq {X : List Nat} : kS 9 ++ (X ++ kS 10) = prX X := by
  show (wdN.getD 4 [] ++ [32]) ++ (X ++ [32, 59]) = wdN.getD 4 [] ++ (32 :: (X ++ [32, 59]))
  rw [List.append_assoc]
  rfl
/-- at the end: the class holds what the law holds -/
theorem bd_final {e' : Nat → Nat} {K' : Nat} {t' : Nat → Nat} (q : SaleP M h a pu wo ha lo bi P tv e fp) (hD : LD e) (hP : e 1 = P) (hm : e 2 = m) (hlo : ∃ fl : Nat → Int32, IM M h lo (.inl (0, m, .inl fl)) ∧ ∀ l, l < m → fl l = nI (e (106 + l))) (ht : TermAt M h tv K' t') (he : ∀ j, j < 178 → j ≠ 10 → e' j = e j) : SaleAt M h a pu wo ha e' K' t' := by
  obtain ⟨q1, q2, ⟨fw, gh, q3, q4, q5, q6, q7⟩, gb, q8⟩ := q
  obtain ⟨fl, l1, l2⟩ := hlo
  have g1 := hD.2.1.1
  have g2 := hD.2.1.2
  have e0 := he 0 (by omega) (by omega)
  have e1 := he 1 (by omega) (by omega)
  have e2 := he 2 (by omega) (by omega)
  have e5 : e' 5 = 0 := (he 5 (by omega) (by omega)).trans hD.2.2.1.2.2.1
  refine ⟨lo, bi, tv, ?_, q2, fp, fw, fl, gh, by rw [e1, hP]; exact q3, by rw [e1, hP]; exact q4, by rw [e1, hP]; exact q5, by rw [e2, hm]; exact l1, fun p hp => ?_, fun l hl => ?_, ?_, ht⟩
  · rw [q1]
    unfold saleO saleL
    rw [e0, he 3 (by omega) (by omega), he 4 (by omega) (by omega), he 6 (by omega) (by omega), he 7 (by omega) (by omega), he 8 (by omega) (by omega)]
  · rw [e1] at hp
    obtain ⟨p1, r, p2, p3⟩ := q6 p hp
    obtain ⟨x1, x2, x3, -⟩ := hD.2.2.2.2.1 p hp
    refine ⟨by rw [he _ (by omega) (by omega)]; exact p1, by rw [he _ (by omega) (by omega), x3]; exact q7 p (by omega), r, p2, CardsAt_eq p3 e0.symm (he _ (by omega) (by omega)).symm (fun c hc => ?_) (fun c hc => ?_) (fun c x _ hx => hx)⟩
    · rw [e0, he (11 + 19 * p + 3 + 2 * c) (by omega) (by omega)]
    · rw [he (11 + 19 * p + 3 + 2 * c + 1) (by omega) (by omega)]
  · rw [e2, hm] at hl
    rw [he _ (by omega) (by omega)]; exact l2 l hl
  · rw [e5]
    exact ⟨gb, q8, fun i hi => absurd hi (Nat.not_lt_zero i)⟩
/-- what the auction by chance is -/
def RsOut (M : Nat → Prop) (b0 bu : Nat) (κ : Nat → Nat) (h h' : zH) (a : Nat) : Prop := ∃ (M' : Nat → Prop) (pu wo ha : Nat) (d : Nat → Nat) (K : Nat) (t : Nat → Nat) (q : Nat) (hd : Nat → Nat → Nat) (hK : Nat → Nat) (ht : Nat → Nat → Nat) (B : Nat → Int32), WC b0 h' (d, K, t, (q, hd, hK, ht), -nI 1, 0, B) ∧ q ≤ 1 ∧ SaleAt M' h' a pu wo ha d K t ∧ K20 M' κ h' ∧ MB M' h' ∧ RnAt h' (bu + 1) ∧ (∀ x, M x → M' x) ∧ (∀ x, M' x → M x ∨ hS h ≤ x) ∧ (∀ x, ownW a pu wo ha x → bu + 1 < x) ∧ bu + 1 < hS h'
theorem rs_end {q : Nat} {hd : Nat → Nat → Nat} {hK : Nat → Nat} {ht : Nat → Nat → Nat} {K' : Nat} {t' : Nat → Nat} {M0 : Nat → Prop} {h0 : zH} (hNN : 54400 < N) (hq : q = 0) (E : EnvW M b0 bu κ h L d K t (q, hd, hK, ht) ea) (qs : SaleP M h a pu wo ha lo bi P tv e fp) (ho : ∀ x, ownW a pu wo ha x → bu + 1 < x) (hP5 : P < 5) (hD : LD e) (hP : e 1 = P) (hm : e 2 = m) (hlo : ∃ fl : Nat → Int32, IM M h lo (.inl (0, m, .inl fl)) ∧ ∀ l, l < m → fl l = nI (e (106 + l))) (htm : TermAt M h tv K' t') (hl : L.length ≤ 660) (hPE : PrsE L e K' t') (hM1 : ∀ x, M0 x → M x) (hM2 : ∀ x, M x → M0 x ∨ hS h0 ≤ x) : ∃ h', f_L_randomSale_j387 N κ b0 bu a (nI P) h = some (some a, h') ∧ RsOut M0 b0 bu κ h0 h' a ∧ FC anW 3 720 h h' := by
  obtain ⟨h', d', B', a1, a2, a3, a4⟩ := L_loadText (N := N) hNN E.1 hl hPE
  have qf := P_wr E qs a4 ho
  have hW9 := Wr_W E.1
  have nbu : ¬ wrW b0 bu (bu + 1) := fun hw => by have := E.2.2.2.1; rcases hw with hw | hw; have := hw.2; omega; omega
  refine ⟨h', ?_, ⟨M, pu, wo, ha, d', K', t', q - forg q + 1, remF hd d q, remF hK K q, remF ht t q, B', a2, ?_, bd_final qf hD hP hm ?_ (TermAt_fc htm a4 hW9) a3, K20_fc E.2.1 a4 hW9, MB_fc E.2.2.1 a4, Rn_fc (Wr_rn E.1).1 a4 (Wr_rn E.1).2 nbu, hM1, hM2, ho, by have := E.1.2.2.2.1.2; have := a4.1.1; omega⟩, FC_an a4⟩
  · rw [f_L_randomSale_j387, a1, Option.bind_some, if_pos (by rw [hP])]
  · subst hq
    unfold forg
    split <;> omega
  · obtain ⟨fl, l1, l2⟩ := hlo
    exact ⟨fl, IM_fc l1 a4 hW9 (fun σ e => by cases e), l2⟩
theorem L_randomSale {hd : Nat → Nat → Nat} {hK : Nat → Nat} {ht : Nat → Nat → Nat} (hNN : 54400 < N) (E : EnvW M b0 bu κ h [] d K t (0, hd, hK, ht) ea) : ∃ a h', f_L_randomSale N κ b0 bu (bu + 1) (nI 6) h = some (some a, h') ∧ RsOut M b0 bu κ h h' a ∧ FC anW 300 7000 h h' := by
  have hbh := E.1.2.2.2.1.2
  -- the object
  obtain ⟨h1, h2, w1, w2, -, f2, s2, c2, c2b⟩ := S_new (N := N) E.2.2.1
  have E2 := Env_nW E f2
  -- the group
  obtain ⟨v, h3, a1, a2, a3, E3, f3⟩ := E_below (N := N) (bd := 4) E2 (by omega) (by omega)
  have hn : inN (2 + v) := inN_of (by omega) (by omega)
  have c3 : hM h3 (hS h) = some (saleO (hS h + 1) (hS h + 2) (hS h + 3) (hS h + 4) (hS h + 5) .null d0N) := cell_fc c2 (by omega) f3 (by omega) (fun σ e => by cases e)
  have c3b : hM h3 (hS h + 5) = some (rfA 0 5 (fun _ => none)) := cell_fc c2b (by omega) f3 (by omega) (fun σ e => by cases e)
  have s3 : hS h3 = hS h + 6 := by have := f3.1.1; have := f3.1.2; omega
  have p4 : pF h3 (hS h) 12 0 (.int (nI (2 + v))) = some (hPut h3 (hS h) (saleO (hS h + 1) (hS h + 2) (hS h + 3) (hS h + 4) (hS h + 5) .null (upN (fun _ => 0) 0 (2 + v)))) := by
    rw [pF_of' c3 (by show 0 < 12; decide)]
    rfl
  have f4 : FC (fun x => x = hS h) 0 0 h3 (hPut h3 (hS h) (saleO (hS h + 1) (hS h + 2) (hS h + 3) (hS h + 4) (hS h + 5) .null (upN (fun _ => 0) 0 (2 + v)))) := FC_put
  have c4 : hM (hPut h3 (hS h) (saleO (hS h + 1) (hS h + 2) (hS h + 3) (hS h + 4) (hS h + 5) .null (upN (fun _ => 0) 0 (2 + v)))) (hS h) = some (saleO (hS h + 1) (hS h + 2) (hS h + 3) (hS h + 4) (hS h + 5) .null (upN (fun _ => 0) 0 (2 + v))) := hM_put_eq
  have c4b : hM (hPut h3 (hS h) (saleO (hS h + 1) (hS h + 2) (hS h + 3) (hS h + 4) (hS h + 5) .null (upN (fun _ => 0) 0 (2 + v)))) (hS h + 5) = some (rfA 0 5 (fun _ => none)) := (hM_put_ne (by omega)).trans c3b
  have s4 : hS (hPut h3 (hS h) (saleO (hS h + 1) (hS h + 2) (hS h + 3) (hS h + 4) (hS h + 5) .null (upN (fun _ => 0) 0 (2 + v)))) = hS h + 6 := s3
  generalize hPut h3 (hS h) (saleO (hS h + 1) (hS h + 2) (hS h + 3) (hS h + 4) (hS h + 5) .null (upN (fun _ => 0) 0 (2 + v))) = h4 at p4 f4 c4 c4b s4
  -- from h on only the chance is touched
  have f24 : FC (fun x => x = bu + 1) 6 12 h h4 := FC_mono (W := fun x => x = bu + 1 ∨ x = hS h) (FC_tr (FC_mono f2 (Nat.le_refl _) (Nat.le_refl _) (fun _ _ h => h.elim)) (FC_tr (FC_mono f3 (Nat.le_refl _) (Nat.le_refl _) (fun _ _ h => Or.inl h)) (FC_mono f4 (Nat.le_refl _) (Nat.le_refl _) (fun _ _ h => Or.inr h)))) (by omega) (by omega) (fun x hx hw => by rcases hw with hw | hw; exact hw; omega)
  have R4 : RnAt h4 (bu + 1) := by
    obtain ⟨sd, r9⟩ := (Wr_rn E3.1).1
    exact ⟨sd, cell_fc r9 (Wr_rn E3.1).2 f4 (by omega) (fun σ e => by cases e)⟩
  have E4 := Env_rn E f24 R4
  -- written
  obtain ⟨h5, x1, x2, x3, x4, x5⟩ := row1 (h := h4) (x := 2 + v)
  have f05 : FC nW 1 1 h4 (hNew h4 (.inl (0, 1, .inl (fun _ => nI 0))) 1) := FC_new
  have rd5 : gI (hNew h4 (.inl (0, 1, .inl (fun _ => nI 0))) 1) (hS h) 12 0 = some (nI (2 + v)) := gI_of' (cell_fc c4 (by omega) f05 (fun h => h) (fun σ e => by cases e)) rfl
  have E5 := Env_nW E4 x4
  obtain ⟨h6, n1, E6, n3⟩ := E_nums (N := N) (i := 0) (ns := [2 + v]) (nu := hS h4) (g := upd (fun _ => nI 0) 0 (nI (2 + v))) (by omega) E5 (by omega) (by show 1 < 100; omega) x3 (by omega) (by omega) (fun j hj => by
    have hj : j < 1 := hj
    have : j = 0 := by omega
    subst this
    exact ⟨upS_eq _ _ _, by show 2 + v < 100000; omega⟩) (by have : (kS 0).length = 5 := rfl; show 0 + _ + 6 * 1 + 1 ≤ 660; omega)
  rw [gr_eq, List.nil_append] at E6
  have hlw : ∀ x, bu + 1 < x → ¬ wrW b0 bu x := fun x hx hw => by have := E.2.2.2.1; rcases hw with hw | hw; have := hw.2; omega; omega
  -- the players' rows
  obtain ⟨P, h7, b1, b2, b3, E7, f7⟩ := E_below (N := N) (bd := 5) E6 (by omega) (by omega)
  have f47 := FC_tr (FC_an x4) (FC_tr (FC_an n3) (FC_an f7))
  have s7 : hS h4 + 1 ≤ hS h7 := by have := n3.1.1; have := f7.1.1; omega
  have kp : ∀ {x : Nat} {e : zE}, hM h4 x = some e → bu + 1 < x → x < hS h4 → (∀ σ : Nat → Int64, e ≠ .inl (1, 11, .inr (.inl σ))) → hM h7 x = some e := fun {x e} hx hb hl hn => cell_fc (cell_fc (cell_fc hx hl x4 (fun h => h) hn) (by omega) n3 (hlw _ hb) hn) (by have := n3.1.1; omega) f7 (by omega) hn
  have c7 := kp c4 (by omega) (by omega) (fun σ e => by cases e)
  have c7b := kp c4b (by omega) (by omega) (fun σ e => by cases e)
  -- three rows and their fields
  have stp : ∀ (k : zH) (fs : List Value) (i : Nat) (e : zE) (m : Nat), hM k (hS h) = some (.inr (12, fs)) → hS h < hS k → i < fs.length → ∃ k', pF (hNew k e m) (hS h) 12 i (.ref (hS k)) = some k' ∧ hM k' (hS h) = some (.inr (12, fs.set i (.ref (hS k)))) ∧ hM k' (hS k) = some e ∧ hS k' = hS k + 1 ∧ FC (fun x => x = hS h) 1 m k k' := fun k fs i e m hk hs hi => by
    have m1 : hM (hNew k e m) (hS h) = some (.inr (12, fs)) := (hM_new_ne (by omega)).trans hk
    have f1 : FC nW 1 m k (hNew k e m) := FC_new
    have f2 : FC (fun x => x = hS h) 0 0 (hNew k e m) (hPut (hNew k e m) (hS h) (.inr (12, fs.set i (.ref (hS k))))) := FC_put
    exact ⟨_, pF_of' m1 hi, hM_put_eq, (hM_put_ne (by omega)).trans hM_new_eq, hS_new k e m, FC_mono (FC_tr (FC_mono (W' := fun x => x = hS h) f1 (Nat.le_refl _) (Nat.le_refl _) (fun _ _ h => h.elim)) f2) (by omega) (by omega) (fun _ _ h => h)⟩
  obtain ⟨k1, y1, y2, y3, y4, y5⟩ := stp h7 _ 1 (.inl (0, P, .inl (fun _ => nI 0))) P c7 (by omega) (by show 1 < 12; decide)
  obtain ⟨k2, z1, z2, z3, z4, z5⟩ := stp k1 _ 2 (.inl (0, P, .inl (fun _ => nI 0))) P y2 (by omega) (by show 2 < 12; decide)
  obtain ⟨k3, u1, u2, u3, u4, u5⟩ := stp k2 _ 3 (rfA P 6 (fun _ => none)) P z2 (by omega) (by show 3 < 12; decide)
  have m1 : nwI h7 (nI P) = _ := nwI_of (by omega)
  have m2 : nwI k1 (nI P) = _ := nwI_of (by omega)
  have m3 : nwR k2 (nI P) = _ := nwR_of (by omega)
  have d1 : hM k3 (hS h7) = some (.inl (0, P, .inl (fun _ => nI 0))) := cell_fc (cell_fc y3 (by omega) z5 (by omega) (fun σ e => by cases e)) (by omega) u5 (by omega) (fun σ e => by cases e)
  have d2 : hM k3 (hS h7 + 1) = some (.inl (0, P, .inl (fun _ => nI 0))) := by
    rw [show hS k1 = hS h7 + 1 by omega] at z3
    exact cell_fc z3 (by omega) u5 (by omega) (fun σ e => by cases e)
  have d3 : hM k3 (hS h7 + 2) = some (rfA P 6 (fun _ => none)) := by
    rw [show hS k2 = hS h7 + 2 by omega] at u3
    exact u3
  have d5 : hM k3 (hS h + 5) = some (rfA 0 5 (fun _ => none)) := cell_fc (cell_fc (cell_fc c7b (by omega) y5 (by omega) (fun σ e => by cases e)) (by omega) z5 (by omega) (fun σ e => by cases e)) (by omega) u5 (by omega) (fun σ e => by cases e)
  have d6 : hM k3 (hS h) = some (saleO (hS h7) (hS h7 + 1) (hS h7 + 2) (hS h + 4) (hS h + 5) .null (upN (fun _ => 0) 0 (2 + v))) := by
    rw [u2, show hS k2 = hS h7 + 2 by omega, show hS k1 = hS h7 + 1 by omega]
    rfl
  -- the wider M
  have hMX : ∀ x, (M x ∨ x = hS h ∨ x = hS h7 ∨ x = hS h7 + 1 ∨ x = hS h7 + 2) → M x ∨ hS h ≤ x := fun x hx => by rcases hx with hx | hx | hx | hx | hx; exact Or.inl hx; all_goals exact Or.inr (by omega)
  have f7k : FC (fun x => x = hS h) 3 (P + (P + P)) h7 k3 := FC_mono (FC_tr y5 (FC_tr z5 u5)) (by omega) (by omega) (fun _ _ h => h)
  have f0k : FC (fun x => wrW b0 bu x ∨ x = bu + 1) (6 + (1 + (0 + (0 + 3)))) (12 + (1 + (0 + (0 + (P + (P + P)))))) h k3 := FC_mono (W := fun x => (wrW b0 bu x ∨ x = bu + 1) ∨ x = hS h) (FC_tr (FC_mono f24 (Nat.le_refl _) (Nat.le_refl _) (fun _ _ h => Or.inl (Or.inr h))) (FC_tr (FC_mono x4 (Nat.le_refl _) (Nat.le_refl _) (fun _ _ h => h.elim)) (FC_tr (FC_mono n3 (Nat.le_refl _) (Nat.le_refl _) (fun _ _ h => Or.inl (Or.inl h))) (FC_tr (FC_mono f7 (Nat.le_refl _) (Nat.le_refl _) (fun _ _ h => Or.inl (Or.inr h))) (FC_mono f7k (Nat.le_refl _) (Nat.le_refl _) (fun _ _ h => Or.inr h)))))) (Nat.le_refl _) (Nat.le_refl _) (fun x hx hw => by rcases hw with hw | hw; exact hw; omega)
  have B9 : MB (fun x => M x ∨ x = hS h ∨ x = hS h7 ∨ x = hS h7 + 1 ∨ x = hS h7 + 2) k3 := fun x hx => by
    rcases hx with hx | hx | hx | hx | hx
    · exact MB_fc E.2.2.1 f0k x hx
    all_goals omega
  have E9 : EnvW (fun x => M x ∨ x = hS h ∨ x = hS h7 ∨ x = hS h7 + 1 ∨ x = hS h7 + 2) b0 bu κ k3 (grX (2 + v)) d K t (0, hd, hK, ht) ea := by
    have hWk := WrAt_fc E7.1 f7k (fun y hy => Or.inr (by have := E.2.2.2.1; omega)) (fun y _ hy => by
      subst hy
      refine ⟨fun fs h9 => ?_, fun σ h9 => ?_, fun n g h8 => ?_⟩
      · rw [c7] at h9; cases h9
      · rw [c7] at h9; cases h9
      · rw [c7] at h8; cases h8) (by omega) (Rn_fc (Wr_rn E7.1).1 f7k (Wr_rn E7.1).2 (by omega))
    refine ⟨⟨hWk.1, hWk.2.1, hWk.2.2.1, hWk.2.2.2.1, hWk.2.2.2.2.1, fun x hx => Or.inl (hWk.2.2.2.2.2.1 x hx), hWk.2.2.2.2.2.2⟩, ?_, B9, E.2.2.2.1, Or.inl E.2.2.2.2⟩
    exact K20_M (K20_fc (K20_up E.2.1) f0k (fun y hy => by rcases hy with hy | hy; exact Or.inl (Wr_W E.1 y hy); exact Or.inl (by rw [hy]; exact E.2.2.2.2))) (fun y _ hy => hMX y hy)
  have q9 : SaleP (fun x => M x ∨ x = hS h ∨ x = hS h7 ∨ x = hS h7 + 1 ∨ x = hS h7 + 2) k3 (hS h) (hS h7) (hS h7 + 1) (hS h7 + 2) (hS h + 4) (hS h + 5) P .null (upN (fun _ => 0) 0 (2 + v)) (fun _ => nI 0) := by
    refine ⟨d6, ⟨⟨by omega, by omega, by omega, by omega⟩, ⟨Or.inr (Or.inl rfl), Or.inr (Or.inr (Or.inl rfl)), Or.inr (Or.inr (Or.inr (Or.inl rfl))), Or.inr (Or.inr (Or.inr (Or.inr rfl)))⟩, ⟨by omega, by omega, by omega, by omega, by omega, by omega⟩, rfl, rfl⟩, ⟨fun _ => nI 0, fun _ => none, d1, d2, d3, fun p hp => absurd hp (Nat.not_lt_zero p), fun _ _ => rfl⟩, fun _ => none, d5, by omega, fun hx => ?_⟩
    rcases hx with hx | hx
    · have := E.2.2.1 _ hx; omega
    · omega
  have ho9 : ∀ x, ownW (hS h) (hS h7) (hS h7 + 1) (hS h7 + 2) x → bu + 1 < x := fun x hx => by rcases hx with hx | hx | hx | hx <;> omega
  have hz : ∀ j, j < 1378 → (fun _ => 0 : Nat → Nat) j = 0 := fun _ _ => rfl
  have hg8 : (grX (2 + v)).length = 8 := by
    unfold grX digX
    rw [if_pos (by omega)]
    rfl
  -- the players
  obtain ⟨h10, L10, e10, ns10, fp10, i1, ⟨E10, q10, hP10, hD10, -, hP5⟩, i3, i4, i5, i6, i7, i8⟩ := bd_plays (N := N) (by omega) P 0 N 0 k3 (grX (2 + v)) (upN (fun _ => 0) 0 (2 + v)) (fun _ => nI 0) (by omega) (by omega) ⟨E9, q9, Prs_gr hn, LD_st hz hn, ho9, by omega⟩ rfl (by omega) (by omega)
  -- the lots
  obtain ⟨m, h11, j1, j2, j3, E11, f11⟩ := E_below (N := N) (bd := 4) E10 (by omega) (by omega)
  have q11 := P_rn E10 q10 f11 ho9
  have w12 : nwI h11 (nI m) = _ := nwI_of (by omega)
  have f12 : FC nW 1 m h11 (hNew h11 (.inl (0, m, .inl (fun _ => nI 0))) m) := FC_new
  have l12 : hM (hNew h11 (.inl (0, m, .inl (fun _ => nI 0))) m) (hS h11) = some (.inl (0, m, .inl (fun _ => nI 0))) := hM_new_eq
  have s12 : hS (hNew h11 (.inl (0, m, .inl (fun _ => nI 0))) m) = hS h11 + 1 := hS_new _ _ _
  have E12' := Env_nW E11 f12
  have hup : ∀ y, y < hS h11 → ((M y ∨ y = hS h ∨ y = hS h7 ∨ y = hS h7 + 1 ∨ y = hS h7 + 2) ∨ y = hS h11) → (M y ∨ y = hS h ∨ y = hS h7 ∨ y = hS h7 + 1 ∨ y = hS h7 + 2) := fun y hy hx => by rcases hx with hx | hx; exact hx; omega
  have sx : hS k3 ≤ hS h11 := by have := i8.1.1; have := f11.1.1; omega
  generalize hNew h11 (.inl (0, m, .inl (fun _ => nI 0))) m = h12 at w12 f12 l12 s12 E12'
  have E12 : EnvW (fun x => (M x ∨ x = hS h ∨ x = hS h7 ∨ x = hS h7 + 1 ∨ x = hS h7 + 2) ∨ x = hS h11) b0 bu κ h12 L10 d K t (0, hd, hK, ht) ea := ⟨⟨E12'.1.1, E12'.1.2.1, E12'.1.2.2.1, E12'.1.2.2.2.1, E12'.1.2.2.2.2.1, fun x hx => Or.inl (E12'.1.2.2.2.2.2.1 x hx), E12'.1.2.2.2.2.2.2⟩, K20_fc (K20_M E11.2.1 hup) f12 nW_any, fun x hx => by rcases hx with hx | hx; exact E12'.2.2.1 x hx; omega, E12'.2.2.2.1, Or.inl E12'.2.2.2.2⟩
  have q12 : SaleP (fun x => (M x ∨ x = hS h ∨ x = hS h7 ∨ x = hS h7 + 1 ∨ x = hS h7 + 2) ∨ x = hS h11) h12 (hS h) (hS h7) (hS h7 + 1) (hS h7 + 2) (hS h + 4) (hS h + 5) P .null e10 fp10 := SaleP_fc (SaleP_M q11 hup (fun y hy => Or.inl hy)) f12 nW_any (fun _ _ h => h)
  obtain ⟨h13, p13, q13, f13⟩ := P_obj (i := 4) (x := .ref (hS h11)) (lo' := hS h11) (tv' := .null) q12 (by omega) rfl rfl
  have E13 := Env_own E12 q12 f13 ho9
  have hlx : ∀ x, ownW (hS h) (hS h7) (hS h7 + 1) (hS h7 + 2) x → x ≠ hS h11 ∧ x ≠ hS h11 + 1 := fun x hx => by rcases hx with hx | hx | hx | hx <;> omega
  have hA13 : LoAt h13 (hS h11) m e10 := ⟨⟨fun _ => nI 0, cell_fc l12 (by omega) f13 (fun hx => (hlx _ hx).1 rfl) (fun σ e => by cases e), fun l hl => by rw [i5] at hl; exact absurd hl (Nat.not_lt_zero l)⟩, by have := f13.1.1; omega, fun h9 => by have := f13.1.2; omega⟩
  obtain ⟨h14, L14, e14, t1, ⟨E14, q14, hP14, hD14, -, -⟩, hA14, t3, t4, t5, t6, t7⟩ := bd_lots (N := N) (lo := hS h11) (m := m) (by omega) (by omega) (Or.inr rfl) (by omega) hlx m 0 N ns10 h13 L10 e10 (by omega) (by omega) ⟨E13, q13, hP10, hD10, ho9, hP5⟩ hA13 (by rw [i5]; rfl) (by omega) (by omega)
  -- back to the narrower M
  have hdn : ∀ y, y < hS h14 → (M y ∨ y = hS h ∨ y = hS h7 ∨ y = hS h7 + 1 ∨ y = hS h7 + 2) → ((M y ∨ y = hS h ∨ y = hS h7 ∨ y = hS h7 + 1 ∨ y = hS h7 + 2) ∨ y = hS h11) := fun y _ hy => Or.inl hy
  have hb14 : MB (fun x => M x ∨ x = hS h ∨ x = hS h7 ∨ x = hS h7 + 1 ∨ x = hS h7 + 2) h14 := fun x hx => E14.2.2.1 x (Or.inl hx)
  have E15 : EnvW (fun x => M x ∨ x = hS h ∨ x = hS h7 ∨ x = hS h7 + 1 ∨ x = hS h7 + 2) b0 bu κ h14 L14 d K t (0, hd, hK, ht) ea := ⟨⟨E14.1.1, E14.1.2.1, E14.1.2.2.1, E14.1.2.2.2.1, E14.1.2.2.2.2.1, fun x hx => Or.inl (Wr_W E.1 x hx), E14.1.2.2.2.2.2.2⟩, K20_M E14.2.1 hdn, hb14, E14.2.2.2.1, Or.inl E.2.2.2.2⟩
  have q15 : SaleP (fun x => M x ∨ x = hS h ∨ x = hS h7 ∨ x = hS h7 + 1 ∨ x = hS h7 + 2) h14 (hS h) (hS h7) (hS h7 + 1) (hS h7 + 2) (hS h11) (hS h + 5) P .null e14 fp10 := by
    obtain ⟨r1, ⟨o1, -, o3⟩, ⟨fw, gh, r3, r4, r5, r6, r7⟩, gb, r8⟩ := q14
    refine ⟨r1, ⟨o1, ⟨Or.inr (Or.inl rfl), Or.inr (Or.inr (Or.inl rfl)), Or.inr (Or.inr (Or.inr (Or.inl rfl))), Or.inr (Or.inr (Or.inr (Or.inr rfl)))⟩, o3⟩, ⟨fw, gh, r3, r4, r5, fun p hp => ?_, r7⟩, gb, IM_M r8 hdn⟩
    obtain ⟨p1, r, p2, p3⟩ := r6 p hp
    exact ⟨p1, r, p2, CardsAt_M p3 hdn⟩
  have lo15 : ∃ fl : Nat → Int32, IM (fun x => M x ∨ x = hS h ∨ x = hS h7 ∨ x = hS h7 + 1 ∨ x = hS h7 + 2) h14 (hS h11) (.inl (0, m, .inl fl)) ∧ ∀ l, l < m → fl l = nI (e14 (106 + l)) := by
    obtain ⟨⟨fl, l1, l2⟩, l3, -⟩ := hA14
    refine ⟨fl, ⟨l1, l3, fun hx => ?_⟩, fun l hl => l2 l (by omega)⟩
    rcases hx with hx | hx
    · have := E.2.2.1 _ hx; omega
    · omega
  -- a price or none
  obtain ⟨u, h16, y16, o16, b16, E16, f16⟩ := E_below (N := N) (bd := 2) E15 (by omega) (by omega)
  have q16 := P_rn E15 q15 f16 ho9
  have hW16 : ∀ y, y = bu + 1 → (M y ∨ y = hS h ∨ y = hS h7 ∨ y = hS h7 + 1 ∨ y = hS h7 + 2) := fun y hy => Or.inl (by rw [hy]; exact E.2.2.2.2)
  have lo16 : ∃ fl : Nat → Int32, IM (fun x => M x ∨ x = hS h ∨ x = hS h7 ∨ x = hS h7 + 1 ∨ x = hS h7 + 2) h16 (hS h11) (.inl (0, m, .inl fl)) ∧ ∀ l, l < m → fl l = nI (e14 (106 + l)) := by
    obtain ⟨fl, l1, l2⟩ := lo15
    exact ⟨fl, IM_fc l1 f16 hW16 (fun σ e => by cases e), l2⟩
  have hPe : e14 1 = P := t4.trans i3
  have fAll : FC anW (6 + (1 + (0 + (0 + (3 + (26 * P + (0 + (1 + (0 + (m + 0)))))))))) (12 + (1 + (0 + (0 + (P + (P + P) + (115 * P + (0 + (m + (0 + (m + 0)))))))))) h h16 := FC_tr (FC_an f24) (FC_tr (FC_an x4) (FC_tr (FC_an n3) (FC_tr (FC_an f7) (FC_tr (FC_an f7k) (FC_tr i8 (FC_tr (FC_an f11) (FC_tr (FC_an f12) (FC_tr (FC_an f13) (FC_tr t7 (FC_an f16))))))))))
  have hnL : L14.length ≤ 8 + 460 + 27 := by omega
  -- the run as far as here
  have w1' : nwOb 12 [.int (nI 0), .null, .null, .null, .null, .int (nI 0), .int (nI 0), .null, .int (nI 0), .int (nI 0), .int (nI 0), .null] h = some (hS h, h1) := w1
  by_cases hu : u = 0
  · subst hu
    obtain ⟨dp, h17, y17, o17, b17, E17, f17⟩ := E_below (N := N) (bd := 3) E16 (by omega) (by omega)
    have q17 := P_rn E16 q16 f17 ho9
    obtain ⟨r, h18, C, X, g1, g2, g3, g4⟩ := L_node (N := N) dp 8 _ h17 (by omega) (by omega) E17.2.2.1 (hW16 _ rfl) (Wr_rn E17.1).2 (Wr_rn E17.1).1
    have E18 := Env_rn E17 g4 g3
    have q18 := P_rn E17 q17 g4 ho9
    obtain ⟨h19, p19, q19, f19⟩ := P_obj (i := 11) (x := .ref r) (lo' := hS h11) (tv' := .ref r) q18 (by omega) rfl rfl
    have E19 := Env_own E18 q18 f19 ho9
    have n19 := NodeAt_fc f19 (P_own q18) dp r C X g2
    obtain ⟨h20, v1, v2, v3⟩ := L_write (N := N) (by omega) E19.1 (E19.2.1 9 (by omega)) (by have : (kS 9).length = 6 := rfl; omega)
    have E20 := Env_wr E19 v2 v3
    have q20 := P_wr E19 q19 v3 ho9
    have n20 := NodeAt_fc v3 (Wr_W E19.1) dp r C X n19
    obtain ⟨s, h21, x21, x22, x23, x24⟩ := L_text (N := N) (κ := κ) dp 8 _ h20 r C X (by omega) (by omega) (by omega) n20 E20.2.2.1 E20.2.1 0 (by omega)
    have hb35 : lnB dp ≤ 35 := by rcases (show dp = 0 ∨ dp = 1 ∨ dp = 2 by omega) with rfl | rfl | rfl <;> decide
    have htx : txC dp ≤ 66 ∧ txS dp ≤ 4920 ∧ ndC dp ≤ 7 := by rcases (show dp = 0 ∨ dp = 1 ∨ dp = 2 by omega) with rfl | rfl | rfl <;> decide
    have E21 := Env_nW E20 x24
    have q21 := SaleP_fc q20 x24 nW_any (fun _ _ h => h)
    have n21 := NodeAt_fc x24 nW_any dp r C X n20
    have l9 : (L14 ++ kS 9).length = L14.length + 6 := List.length_append
    obtain ⟨h22, a22, a23, a24⟩ := L_write (N := N) (by omega) E21.1 x22 (by omega)
    have E22 := Env_wr E21 a23 a24
    have q22 := P_wr E21 q21 a24 ho9
    have n22 := NodeAt_fc a24 (Wr_W E21.1) dp r C X n21
    have l10 : (L14 ++ kS 9 ++ X 0).length = L14.length + 6 + (X 0).length := by rw [List.length_append, l9]
    obtain ⟨h23, a25, a26, a27⟩ := L_write (N := N) (by omega) E22.1 (E22.2.1 10 (by omega)) (by have : (kS 10).length = 2 := rfl; omega)
    have E23 := Env_wr E22 a26 a27
    have q23 := P_wr E22 q22 a27 ho9
    have n23 := NodeAt_fc a27 (Wr_W E22.1) dp r C X n22
    rw [List.append_assoc, List.append_assoc, pr_eq] at E23
    have lo23 : ∃ fl : Nat → Int32, IM (fun x => M x ∨ x = hS h ∨ x = hS h7 ∨ x = hS h7 + 1 ∨ x = hS h7 + 2) h23 (hS h11) (.inl (0, m, .inl fl)) ∧ ∀ l, l < m → fl l = nI (e14 (106 + l)) := by
      obtain ⟨fl, l1, l2⟩ := lo16
      refine ⟨fl, ?_, l2⟩
      have b1 := IM_fc (IM_fc (IM_fc l1 f17 hW16 (fun σ e => by cases e)) g4 hW16 (fun σ e => by cases e)) f19 (P_own q18) (fun σ e => by cases e)
      exact IM_fc (IM_fc (IM_fc (IM_fc b1 v3 (Wr_W E19.1) (fun σ e => by cases e)) x24 nW_any (fun σ e => by cases e)) a24 (Wr_W E21.1) (fun σ e => by cases e)) a27 (Wr_W E22.1) (fun σ e => by cases e)
    have hx := NodeX_of dp r C X n23
    have tm : TermAt (fun x => M x ∨ x = hS h ∨ x = hS h7 ∨ x = hS h7 + 1 ∨ x = hS h7 + 2) h23 (.ref r) C.length (fun k => C.getD k 0) := by
      have h2n : NodeAt (fun x => M x ∨ x = hS h ∨ x = hS h7 ∨ x = hS h7 + 1 ∨ x = hS h7 + 2) h23 2 r C X := NodeAt_up (by omega) n23
      exact Or.inr ⟨r, C, X, rfl, h2n, rfl, fun _ _ => rfl⟩
    have l11 : (L14 ++ prX (X 0)).length ≤ 620 := by
      have : (prX (X 0)).length = 6 + ((X 0).length + 2) := by
        rw [← pr_eq, List.length_append, List.length_append]
        rfl
      rw [List.length_append]
      omega
    obtain ⟨h', r1, r2, r3⟩ := rs_end (N := N) (M0 := M) (h0 := h) hNN rfl E23 q23 ho9 hP5 hD14 hPe t3 lo23 tm (by omega) (PrsE_1 hP14 (by omega) hx (by omega) (fun i hi => by rw [Nat.zero_add])) (fun x hx => Or.inl hx) hMX
    refine ⟨hS h, h', ?_, r2, FC_mono (FC_tr fAll (FC_tr (FC_an f17) (FC_tr (FC_an g4) (FC_tr (FC_an f19) (FC_tr (FC_an v3) (FC_tr (FC_an x24) (FC_tr (FC_an a24) (FC_tr (FC_an a27) r3)))))))) (by omega) (by omega) (fun _ _ h => h)⟩
    have gO1 : gO h20 (hS h) 12 11 = some (some r) := by
      have := q20.1
      simp only [gO, gF, this]
      rfl
    have on10 : ∀ F : Option (Nat × zH), onO 10 r h20 F = F := by
      intro F
      cases dp with
      | zero => obtain ⟨v, l2, r2, g | g⟩ := n20 <;> exact onO_of' g.1.1
      | succ nn => rcases n20 with ⟨v, l2, r2, g | g⟩ | ⟨_, _, _, _, _, _, _, _, _, g, -⟩
                   · exact onO_of' g.1.1
                   · exact onO_of' g.1.1
                   · exact onO_of' g.1
    simp (disch := omega) only [f_L_randomSale, nlit, w1', w2, a2, a3, nadd, p4, x1, rd5, x2, n1, b2, b3, m1, y1, m2, z1, m3, u1, i1, j2, j3, w12, p13, t1, o16, b16, neqT, o17, b17, g1, p19, v1, gO1, znl, on10, x21, a22, a25, r1, Option.bind_some, ↓reduceIte]
  · obtain ⟨h', r1, r2, r3⟩ := rs_end (N := N) (M0 := M) (h0 := h) hNN rfl E16 q16 ho9 hP5 hD14 hPe t3 lo16 (Or.inl ⟨rfl, rfl, rfl⟩) (by omega) (PrsE_0 hP14 (by omega)) (fun x hx => Or.inl hx) hMX
    refine ⟨hS h, h', ?_, r2, FC_mono (FC_tr fAll r3) (by omega) (by omega) (fun _ _ h => h)⟩
    simp (disch := omega) only [f_L_randomSale, nlit, w1', w2, a2, a3, nadd, p4, x1, rd5, x2, n1, b2, b3, m1, y1, m2, z1, m3, u1, i1, j2, j3, w12, p13, t1, o16, b16, neqF, r1, Option.bind_some, ↓reduceIte]
end M887

/-! ===== the law's rounds: one round, all rounds ===== -/
section M96
variable {M M' : Nat → Prop} {h h' : zH} {N n c m b0 rn bf a pu wo ha K D q Sb Nb z i L : Nat} {d t : Nat → Nat} {κ : Nat → Nat} {g : Nat → Option Nat} {ow : Nat → Prop} {hd : Nat → Nat → Nat} {hK : Nat → Nat} {ht : Nat → Nat → Nat} {ea z2 : Int32} {B : Nat → Int32} {xs : Nat → Int32} {P : Option ((Int32 ⊕ Nat) × zH) → Prop} {k1 : Int32 → Int32 → zH → Option ((Int32 ⊕ Nat) × zH)}
theorem LI_le {Sb' Nb' : Nat} (X : LI M b0 rn bf κ h a d K t D g q hd hK ht ea z B Sb Nb) (h1 : Sb ≤ Sb') (h2 : Nb ≤ Nb') : LI M b0 rn bf κ h a d K t D g q hd hK ht ea z B Sb' Nb' := by
  obtain ⟨pu, wo, ha, x1, x2, x3, x4, x5⟩ := X
  exact ⟨pu, wo, ha, x1, x2, x3, Nat.le_trans x4 h1, Nat.le_trans x5 h2⟩
theorem Bg_cp (X : Bg M b0 rn bf κ ow h D g q hd hK ht) (f : FC nW c m h h') (hm : ∀ y, y < hS h → M' y → M y) (hm2 : ∀ y, M y → M' y) (b : MB M' h') : Bg M' b0 rn bf κ ow h' D g q hd hK ht := by
  obtain ⟨b1, b2, ⟨b3, b4, b5, b6, b7⟩, ⟨c1, c2, c3, c4, c5, c6⟩, b8⟩ := X
  have s := f.1.1
  refine ⟨K20_fc (K20_M b1 hm) f nW_any, b, ⟨Rn_fc b3 f b6 (fun h => h), hm2 _ b4, b5, by omega, b7⟩, ⟨cell_fc c1 c4 f (fun h => h) (fun σ e => by cases e), hm2 _ c2, c3, by omega, c5, c6⟩, fun j j1 j2 => ?_, b8.2⟩
  obtain ⟨j3, aj, a1, a2⟩ := b8.1 j j1 j2
  exact ⟨j3, aj, a1, SaleK_fc (SaleK_M a2 hm hm2) f nW_any (fun y hy => hy.elim)⟩
/-- the auction is copied, then the round begins -/
theorem Ac_copy (hNN : 1400 < N) (P1 : PW M b0 a pu wo ha h d K t ((q, hd, hK, ht), ea, z, B)) (B1 : Bg M b0 rn bf κ (ownW a pu wo ha) h D g q hd hK ht) (s1 : hS h ≤ Sb) (s2 : hN h ≤ Nb) : ∃ h1, f_X12_copy N a h = some (hS h, h1) ∧ (∀ x, M x → cpM M (hS h) x) ∧ AcX (cpM M (hS h)) b0 rn bf κ h1 a pu wo ha d K t D g q hd hK ht (hS h) d ((q, hd, hK, ht), ea, z, B) (Sb + 9) (Nb + 27) := by
  have hD := PW_g P1
  have hz := SzD_of hD
  obtain ⟨h1, c1, c2, c3, c4⟩ := S_copy (N := N) (by omega) P1.2.1 B1.2.1 hz
  have u1 : ∀ y, y < hS h → cpM M (hS h) y → M y := fun y hy hm => by
    rcases hm with hm | hm | hm | hm | hm
    · exact hm
    · omega
    · omega
    · omega
    · omega
  have u2 : ∀ y, M y → cpM M (hS h) y := fun y hy => Or.inl hy
  have mb : MB (cpM M (hS h)) h1 := fun y hm => by
    rcases hm with hm | hm | hm | hm | hm
    · have := B1.2.1 y hm; omega
    · omega
    · omega
    · omega
    · omega
  have o1 := own_M P1.2.1
  have rb := B1.2.2.1
  have bb := B1.2.2.2.1
  refine ⟨h1, c1, u2, PW_nW (PW_M P1 u1 u2) c3, Bg_cp B1 c3 u1 u2 mb, ⟨hS h + 6, hS h + 7, hS h + 8, c2, fun x hx => ?_⟩, ?_, ?_⟩
  · have hx2 : hS h ≤ x := by
      rcases hx with hx | hx | hx | hx
      · omega
      · omega
      · omega
      · omega
    have r1 := rb.2.2.2.1
    have r2 := bb.2.2.2.1
    have r3 := rb.2.2.1
    refine ⟨by omega, by omega, by omega, fun hw => ?_⟩
    have := B1.2.1 _ (o1 x hw)
    omega
  · have := c3.1.2; omega
  · have := c3.2.1.2; omega
theorem law_round (hNN : 1400 < N) (S : LI M b0 rn bf κ h a d K t D g q hd hK ht ea z B Sb Nb) (hi : i < 40) (hD9 : D < 1000) (hP : ∀ M' h' d' D' g' q' hd' hK' ht', (∀ x, M x → M' x) → (D' = D ∨ D' = D + 1) → LI M' b0 rn bf κ h' a d' K t D' g' q' hd' hK' ht' ea z B (Sb + 869) (Nb + 4527) → P (f_L_law_l195 N κ L xs z2 b0 rn a bf k1 n (nI 1) (nI D') (nI (i + 1)) h')) : P (f_L_law_l195 N κ L xs z2 b0 rn a bf k1 (n + 1) (nI 1) (nI D) (nI i) h) := by
  obtain ⟨pu, wo, ha, P1, B1, hq, s1, s2⟩ := S
  have hD := PW_g P1
  have hz := SzD_of hD
  have d15 := hz.1
  rw [f_L_law_l195]
  refine ifPF (show ¬ nI 40 ≤ nI i from of_eq_false (nleF (by omega) (by omega))) ?_
  refine ifPF (show ¬ nI 1 = (0 : Int32) from by decide) ?_
  obtain ⟨h1, c1, mm, X1⟩ := Ac_copy (N := N) hNN P1 B1 s1 s2
  refine onP (o12 P1.2.1) ?_
  refine bindP c1 ?_
  have ra := rd_rows X1.1.2.1
  refine bindP ra.1 ?_
  refine bindP ra.2.2.2.1 ?_
  obtain ⟨v, h2, v1, v2, v3, X2⟩ := AcX_bel (N := N) (x := (12 : Int32)) (bd := 12) X1 rfl (by omega) (by omega)
  refine onP (v2 _) ?_
  refine bindP v3 ?_
  refine zjnQ (fun j => ∀ s, s ≤ 1 → 0 < d 1 + s → P (j (nI D) (nI i) (hS h) (-2000000097 : Int32) (nI (d 1)) rn (nI (d 1)) (nI s) h2)) (fun s hs h0 => ?_) (fun j252 q252 => ?_)
  rotate_left
  · refine zjnP ?_
    by_cases hv : v = 0
    · subst hv
      exact ifPT (show nI 0 = (0 : Int32) from rfl) (q252 1 (by omega) (by omega))
    · refine ifPF (show ¬ nI v = nI 0 from of_eq_false (neqF (by omega) (by omega) hv)) ?_
      by_cases h1 : d 1 = 0
      · have q9 := q252 1 (by omega) (by omega)
        refine ifPT (show nI (d 1) = (0 : Int32) from by rw [h1]; rfl) ?_
        exact q9
      · refine ifPF (show ¬ nI (d 1) = nI 0 from of_eq_false (neqF (by omega) (by omega) h1)) ?_
        exact q252 0 (by omega) (by omega)
  obtain ⟨p, h3, p1, p2, p3, X3⟩ := AcX_bel (N := N) (x := nI (d 1) + nI s) (bd := d 1 + s) X2 (nadd (d 1) s) h0 (by omega)
  refine onP (p2 _) ?_
  refine bindP p3 ?_
  refine zjnQ (fun j => ∀ ip, ((p < d 1 ∧ ip = 1) ∨ (p = d 1 ∧ ip = 0)) → P (j (nI D) (nI i) (hS h) (-2000000097 : Int32) (nI p) (nI ip) h3)) (fun ip hip => ?_) (fun j270 q270 => ?_)
  rotate_left
  · by_cases hc : d 1 ≤ p
    · exact ifPT (show nI (d 1) ≤ nI p from of_eq_true (nleT (by omega) hc)) (q270 0 (Or.inr ⟨by omega, rfl⟩))
    · exact ifPF (show ¬ nI (d 1) ≤ nI p from of_eq_false (nleF (by omega) (by omega))) (q270 1 (Or.inl ⟨by omega, rfl⟩))
  refine zjnQ (fun j => ∀ cards, ((p < d 1 ∧ ip = 1 ∧ cards = d (11 + 19 * p + 1)) ∨ (p = d 1 ∧ ip = 0 ∧ cards = 0)) → P (j (nI D) (nI i) (hS h) (-2000000097 : Int32) (nI p) (nI ip) (nI cards) h3)) (fun cards hip2 => ?_) (fun j290 q290 => ?_)
  rotate_left
  · rcases hip with ⟨i1, rfl⟩ | ⟨i1, rfl⟩
    · refine ifPF (show ¬ nI 1 = (0 : Int32) from by decide) ?_
      obtain ⟨-, -, r0, y1, y2, -⟩ := rd_play X3.1.2.1 i1 d15
      refine bindP (rd_rows X3.1.2.1).2.2.1 ?_
      refine bindP y1 ?_
      refine bindP y2 ?_
      exact q290 _ (Or.inl ⟨i1, rfl, rfl⟩)
    · refine ifPT (show nI 0 = (0 : Int32) from rfl) ?_
      exact q290 0 (Or.inr ⟨i1, rfl, rfl⟩)
  obtain ⟨o1, o2⟩ := AcX_over (N := N) X3
  refine onP (o1 _) ?_
  refine bindP o2 ?_
  refine zjnQ (fun j => ∀ hand, ((overN d = true ∧ hand = 0) ∨ (overN d = false ∧ hand = d (11 + 19 * d 4 + 1))) → P (j (nI D) (nI i) (hS h) (-2000000097 : Int32) (nI p) (nI ip) (nI cards) (nI hand) h3)) (fun hand hh => ?_) (fun j316 q316 => ?_)
  rotate_left
  · cases ho : overN d with
    | true =>
      refine ifPF (show ¬ b2 true = (0 : Int32) from by decide) ?_
      exact q316 0 (Or.inl ⟨ho, rfl⟩)
    | false =>
      refine ifPT (show b2 false = (0 : Int32) from rfl) ?_
      obtain ⟨ov1, ov2⟩ := overN_false ho
      have h4 : d 4 < d 1 := by have := hD.1.2.2.2.2.1; omega
      obtain ⟨-, -, r0, y1, y2, -⟩ := rd_play X3.1.2.1 h4 d15
      refine bindP (rd_rows X3.1.2.1).2.2.1 ?_
      refine bindP (rd_ints X3.1.2.1).2.2.1 ?_
      refine bindP y1 ?_
      refine bindP y2 ?_
      exact q316 _ (Or.inr ⟨ho, rfl⟩)
  have c8 : hand ≤ 8 := by
    rcases hh with ⟨x1, x2⟩ | ⟨x1, x2⟩
    · omega
    · obtain ⟨ov1, ov2⟩ := overN_false x1
      have h4 : d 4 < d 1 := by have := hD.1.2.2.2.2.1; omega
      rw [x2]; exact hz.2.2 _ h4
  obtain ⟨w, h4, w1, w2, w3, X4⟩ := AcX_bel (N := N) (x := (9 : Int32)) (bd := 9) X3 rfl (by omega) (by omega)
  refine onP (w2 _) ?_
  refine bindP w3 ?_
  refine zjnQ (fun j => ∀ s, s ≤ 1 → 0 < hand + s → P (j (nI D) (nI i) (hS h) (-2000000097 : Int32) (nI p) (nI ip) (nI cards) (nI hand) rn (nI hand) (nI s) h4)) (fun s' hs' h0' => ?_) (fun j342 q342 => ?_)
  rotate_left
  · refine zjnP ?_
    by_cases hv : w = 0
    · subst hv
      exact ifPT (show nI 0 = (0 : Int32) from rfl) (q342 1 (by omega) (by omega))
    · refine ifPF (show ¬ nI w = nI 0 from of_eq_false (neqF (by omega) (by omega) hv)) ?_
      by_cases h1 : hand = 0
      · subst h1
        exact ifPT (show nI 0 = (0 : Int32) from rfl) (q342 1 (by omega) (by omega))
      · refine ifPF (show ¬ nI hand = nI 0 from of_eq_false (neqF (by omega) (by omega) h1)) ?_
        exact q342 0 (by omega) (by omega)
  obtain ⟨ca, h5, ca1, ca2, ca3, X5⟩ := AcX_bel (N := N) (x := nI hand + nI s') (bd := hand + s') X4 (nadd hand s') h0' (by omega)
  refine onP (ca2 _) ?_
  refine bindP ca3 ?_
  obtain ⟨u, h6, u1, u2, u3, X6⟩ := AcX_bel (N := N) (x := (9 : Int32)) (bd := 9) X5 rfl (by omega) (by omega)
  refine onP (u2 _) ?_
  refine bindP u3 ?_
  refine zjnQ (Q955 P (cpM M (hS h)) b0 rn bf κ a pu wo ha d K t D g q hd hK ht (hS h) ea z B i (Sb + 9 + 60) (Nb + 27 + 300)) (law_tail hNN hq hD9 (fun h' d' D' g' q' hd' hK' ht' x1 x2 => hP _ h' d' D' g' q' hd' hK' ht' mm x1 (LI_le x2 (by omega) (by omega)))) (fun j955 hj => ?_)
  have hca : ca ≤ hand := by omega
  have nz : ∀ x : Nat, u ≠ x → x < 100 → ¬ nI u = nI x := fun x h1 h2 => of_eq_false (neqF (by omega) (by omega) h1)
  by_cases e0 : u = 0
  · subst e0
    exact ifPT (show nI 0 = (0 : Int32) from rfl) (K_give hNN X6 hj hip2 rfl rfl rfl rfl rfl rfl rfl)
  refine ifPF (nz 0 e0 (by omega)) ?_
  by_cases e1 : u = 1
  · subst e1
    exact ifPT (show nI 1 = (1 : Int32) from rfl) (K_disc hNN X6 hj hip2 rfl rfl rfl rfl rfl rfl rfl)
  refine ifPF (nz 1 e1 (by omega)) ?_
  by_cases e2 : u = 2
  · subst e2
    exact ifPT (show nI 2 = (2 : Int32) from rfl) (K_pass hNN X6 hj rfl rfl rfl)
  refine ifPF (nz 2 e2 (by omega)) ?_
  by_cases e3 : u = 3
  · subst e3
    exact ifPT (show nI 3 = (3 : Int32) from rfl) (K_can3 hNN X6 hj hh hca rfl rfl rfl rfl)
  refine ifPF (nz 3 e3 (by omega)) ?_
  by_cases e4 : u = 4
  · subst e4
    exact ifPT (show nI 4 = (4 : Int32) from rfl) (K_can4 hNN X6 hj hh hca rfl rfl rfl rfl)
  refine ifPF (nz 4 e4 (by omega)) ?_
  by_cases e5 : u = 5
  · subst e5
    exact ifPT (show nI 5 = (5 : Int32) from rfl) (K_can5 hNN X6 hj hh hca rfl rfl rfl rfl)
  refine ifPF (nz 5 e5 (by omega)) ?_
  exact K_play hNN X6 hj hh hca rfl rfl rfl rfl
theorem law_rounds (hNN : 1400 < N) : ∀ (r i fu : Nat) (M : Nat → Prop) (h : zH) (d : Nat → Nat) (D : Nat) (g : Nat → Option Nat) (q : Nat) (hd : Nat → Nat → Nat) (hK : Nat → Nat) (ht : Nat → Nat → Nat) (Sb Nb : Nat), i + r = 40 → r < fu → D ≤ i → LI M b0 rn bf κ h a d K t D g q hd hK ht ea z B Sb Nb → (∀ M' h' d' D' g' q' hd' hK' ht', (∀ x, M x → M' x) → D' ≤ 40 → LI M' b0 rn bf κ h' a d' K t D' g' q' hd' hK' ht' ea z B (Sb + 869 * r) (Nb + 4527 * r) → P (k1 (nI 1) (nI D') h')) → P (f_L_law_l195 N κ L xs z2 b0 rn a bf k1 fu (nI 1) (nI D) (nI i) h) := by
  intro r
  induction r with
  | zero =>
    intro i fu M h d D g q hd hK ht Sb Nb hr hf hDi S hP
    obtain ⟨f, rfl⟩ : ∃ f, fu = f + 1 := ⟨fu - 1, by omega⟩
    rw [f_L_law_l195]
    refine ifPT (show nI 40 ≤ nI i from of_eq_true (nleT (by omega) (by omega))) ?_
    exact hP M h d D g q hd hK ht (fun x h => h) (by omega) (LI_le S (by omega) (by omega))
  | succ r ih =>
    intro i fu M h d D g q hd hK ht Sb Nb hr hf hDi S hP
    obtain ⟨f, rfl⟩ : ∃ f, fu = f + 1 := ⟨fu - 1, by omega⟩
    refine law_round hNN S (by omega) (by omega) (fun M' h' d' D' g' q' hd' hK' ht' mm x1 x2 => ?_)
    refine ih (i + 1) f M' h' d' D' g' q' hd' hK' ht' (Sb + 869) (Nb + 4527) (by omega) (by omega) (by omega) x2 (fun M9 h9 d9 D9 g9 q9 hd9 hK9 ht9 mm9 y1 y2 => ?_)
    exact hP M9 h9 d9 D9 g9 q9 hd9 hK9 ht9 (fun x hx => mm9 x (mm x hx)) y1 (LI_le y2 (by omega) (by omega))
end M96

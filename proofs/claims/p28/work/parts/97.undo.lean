/-! ===== the law's rounds: all is undone, the last calls ===== -/
section M97
variable {M : Nat → Prop} {h h' : zH} {N n b0 rn bf a pu wo ha K D q Sb Nb z L v3 : Nat} {d t : Nat → Nat} {κ : Nat → Nat} {g : Nat → Option Nat} {ow : Nat → Prop} {hd : Nat → Nat → Nat} {hK : Nat → Nat} {ht : Nat → Nat → Nat} {ea z2 v2 u158 : Int32} {B : Nat → Int32} {xs : Nat → Int32} {P : Option ((Int32 ⊕ Nat) × zH) → Prop} {k1 : Int32 → zH → Option ((Int32 ⊕ Nat) × zH)}
theorem undo_l (hNN : 1400 < N) (hD : D ≤ 40) (hq : q ≤ 8) : ∀ (r k fu : Nat) (h : zH) (d : Nat → Nat) (K : Nat) (t : Nat → Nat) (a pu wo ha Sb Nb : Nat), k + r = min D 8 → r < fu → Bg M b0 rn bf κ ow h D g q hd hK ht → PW M b0 a pu wo ha h d K t ((q - k, hd, hK, ht), ea, z, B) → hS h ≤ Sb → hN h ≤ Nb → (∀ (h' : zH) (d : Nat → Nat) (K : Nat) (t : Nat → Nat) (a pu wo ha k' : Nat), Bg M b0 rn bf κ ow h' D g q hd hK ht → PW M b0 a pu wo ha h' d K t ((k', hd, hK, ht), ea, z, B) → hS h' ≤ Sb + 801 * r → hN h' ≤ Nb + 4206 * r → P (k1 (nI 1) h')) → P (f_L_law_l1024 N κ L xs z2 b0 bf (nI D) k1 fu (nI 1) (nI k) h) := by
  intro r
  induction r with
  | zero =>
    intro k fu h d K t a pu wo ha Sb Nb hk hf hB hP s1 s2 kk
    obtain ⟨f, rfl⟩ : ∃ f, fu = f + 1 := ⟨fu - 1, by omega⟩
    rw [f_L_law_l1024]
    have fin := kk h d K t a pu wo ha _ hB hP (by omega) (by omega)
    by_cases h8 : 8 ≤ k
    · exact ifPT (show nI 8 ≤ nI k from of_eq_true (nleT (by omega) h8)) fin
    · refine ifPF (show ¬ nI 8 ≤ nI k from of_eq_false (nleF (by omega) (by omega))) ?_
      exact ifPT (show nI D ≤ nI k from of_eq_true (nleT (by omega) (by omega))) fin
  | succ r ih =>
    intro k fu h d K t a pu wo ha Sb Nb hk hf hB hP s1 s2 kk
    obtain ⟨f, rfl⟩ : ∃ f, fu = f + 1 := ⟨fu - 1, by omega⟩
    obtain ⟨kq, ak, ak1, ⟨pk, wk, hk9, ak2, ak3⟩⟩ := hB.2.2.2.2.1 k (by omega) (by omega)
    obtain ⟨c, hc⟩ : ∃ c, q - k = c + 1 := ⟨q - 1 - k, by omega⟩
    rw [show q - 1 - k = c by omega] at ak2
    rw [hc] at hP
    rw [f_L_law_l1024]
    refine ifPF (show ¬ nI 8 ≤ nI k from of_eq_false (nleF (by omega) (by omega))) ?_
    refine ifPF (show ¬ nI D ≤ nI k from of_eq_false (nleF (by omega) (by omega))) ?_
    refine ifPF (show ¬ nI 1 = (0 : Int32) from by decide) ?_
    obtain ⟨h1, e1, e2, e3⟩ := WR hP.1 (C_undo hNN hP.1)
    refine bindP e1 ?_
    refine zjnP ?_
    refine zjnP ?_
    refine ifPF (show ¬ nI c < nI 0 from of_eq_false (nltF (by omega) (by omega))) ?_
    have hcl := hP.2.2.1
    have B1 := Bg_fc hB e3 hcl (fun y hy => Or.inl hy)
    refine bindP (ldQ7_of B1.2.2.2.1.1 (show k < 9 by omega) ak1) ?_
    have P1 : PW M b0 ak pk wk hk9 h1 (hd c) (hK c) (ht c) ((c, hd, hK, ht), ea, z, B) := ⟨e2, SaleAt_cl ak2 e3 hcl (fun x hx => (ak3 x hx).1), hcl, fun x hx => (ak3 x hx).1⟩
    obtain ⟨h2, a1, a2, a3⟩ := L_agrees hNN P1
    refine bindP a1 ?_
    refine zthP ?_
    refine ifPF (show ¬ nI 1 = (0 : Int32) from by decide) ?_
    have B2 := Bg_fc B1 a3 hcl (fun y hy => Or.inl hy)
    rw [show c = q - (k + 1) by omega] at a2
    have nx := ih (k + 1) f h2 _ _ _ _ _ _ _ (Sb + 801) (Nb + 4206) (by omega) (by omega) B2 a2 (by have := a3.1.2; have := e3.1.2; omega) (by have := a3.2.1.2; have := e3.2.1.2; omega) (fun h' d K t a pu wo ha k' x1 x2 x3 x4 => kk h' d K t a pu wo ha k' x1 x2 (by omega) (by omega))
    rw [← nadd] at nx
    exact nx
theorem not_inPn {k : Nat} (hk : k < 1000) : ¬ inP (-nI 1) k := by
  rintro ⟨v, v1, v2⟩
  have h1 := neg_int (x := 1) (by omega)
  have h2 := nI_toInt (n := v) (by omega)
  rw [v2] at h1
  omega
theorem law_end (hNN : 1400 < N) (P0 : PW M v3 a pu wo ha h d K t ((q, hd, hK, ht), ea, 0, B)) (hu : u158 = nI 1) (hP : ∀ h', FC (clW v3) 5 30 h h' → P (f_L_law_l4 N κ L xs n (nI 1) (v2 + (1 : Int32)) h')) : P (zjn (fun (v2 : Int32) (s0 : Int32) (h : zH) => f_L_law_l4 N κ L xs n s0 (v2 + (1 : Int32)) h) (fun (j1136 : Int32 → Int32 → zH → Option ((Int32 ⊕ Nat) × zH)) => zjn (fun (v2 : Int32) (h : zH) => j1136 v2 (0 : Int32) h) (fun (j1135 : Int32 → zH → Option ((Int32 ⊕ Nat) × zH)) => if u158 = 0 then j1135 v2 h else (f_L_load N v3 (1 : Int32) h).bind fun y160 => if y160.1 = (-2000000098 : Int32) then (f_L_card N v3 (-1 : Int32) (-1 : Int32) (9 : Int32) y160.2).bind fun y161 => if y161.1 = (-2000000097 : Int32) then (f_L_productOf N v3 (-1 : Int32) (0 : Int32) y161.2).bind fun y162 => if y162.1 = (-2000000098 : Int32) then (f_L_reach N v3 (-1 : Int32) y162.2).bind fun y163 => if y163.1 = (-2000000097 : Int32) then (f_L_fewest N v3 (5 : Int32) y163.2).bind fun y164 => if y164.1 = (-2000000097 : Int32) then j1136 v2 (1 : Int32) y164.2 else j1135 v2 y164.2 else j1135 v2 y163.2 else j1135 v2 y162.2 else j1135 v2 y161.2 else j1135 v2 y160.2))) := by
  subst hu
  have hD := PW_g P0
  have d15 : d 1 ≤ 5 := (SzD_of hD).1
  refine zjnP ?_
  refine zjnP ?_
  refine ifPF (show ¬ nI 1 = (0 : Int32) from by decide) ?_
  obtain ⟨h1, a1, a2, a3⟩ := G_load P0.1 (C_load1 P0.1) (exc rfl)
  have P1 : PW M v3 a pu wo ha h1 d K t ((q, hd, hK, ht), ea, 0, B) := ⟨a2, SaleAt_cl P0.2.1 a3 P0.2.2.1 P0.2.2.2, P0.2.2⟩
  refine bindP a1 ?_
  refine ifPT rfl ?_
  obtain ⟨h2, b1, b2, b3⟩ := W_cardP hNN P1 (x := -nI 1) (y9 := -nI 1) (w := nI 9) (not_inPn (by omega))
  refine bindP b1 ?_
  refine ifPT rfl ?_
  obtain ⟨h3, c1, c2, c3⟩ := G_productOf b2.1 (C_prodOfN (y := nI 0) hNN b2.1) (exc rfl)
  refine bindP c1 ?_
  refine ifPT rfl ?_
  obtain ⟨h4, d1, d2, d3⟩ := G_reach c2 (C_reachN (x := -nI 1) hNN c2 (not_inPn (by omega))) (exc rfl)
  refine bindP d1 ?_
  refine ifPT rfl ?_
  obtain ⟨h5, e1, e2, e3⟩ := G_fewest d2 (C_fewestN (x := nI 5) hNN d2 (fun ⟨v, v1, v2⟩ => by have := (nI_eq (by omega) (by omega)).mp v2; omega)) (exc rfl)
  refine bindP e1 ?_
  refine ifPT rfl ?_
  exact hP h5 (FC_tr (FC_tr (FC_tr (FC_tr a3 b3) c3) d3) e3)
end M97

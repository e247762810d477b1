/-! ===== the law's rounds: the roads of the cases ===== -/
section M95
variable {M : Nat → Prop} {h8 : zH} {N v3 v5 v6 v7 pu wo ha K D q A Sb Nb z p i ip cards hand ca v10 L : Nat} {d t : Nat → Nat} {κ : Nat → Nat} {g : Nat → Option Nat} {hd : Nat → Nat → Nat} {hK : Nat → Nat} {ht : Nat → Nat → Nat} {ea v2 v8 v9 v12 v14 v15 v16 v17 : Int32} {B : Nat → Int32} {xs : Nat → Int32} {P : Option ((Int32 ⊕ Nat) × zH) → Prop} {j955 : Int32 → Int32 → Int32 → Nat → Int32 → zH → Option ((Int32 ⊕ Nat) × zH)}
theorem AcX_belR {x : Int32} {bd er n e : Nat} (X : AcX M v3 v5 v7 κ h8 v6 pu wo ha d K t D g q hd hK ht A d ((q, hd, hK, ht), ea, z, B) Sb Nb) (R : RowAt M h8 er n e) (hx : x = nI bd) (h0 : 0 < bd) (h1 : bd < 2 ^ 31) : ∃ (v : Nat) (h' : zH), v < bd ∧ (∀ F : Option (Int32 × zH), onO 11 v5 h8 F = F) ∧ f_X11_below N v5 x h8 = some (nI v, h') ∧ AcX M v3 v5 v7 κ h' v6 pu wo ha d K t D g q hd hK ht A d ((q, hd, hK, ht), ea, z, B) Sb Nb ∧ RowAt M h' er n e := by
  subst hx
  obtain ⟨v, sd, b1, b2, b3⟩ := L_below (N := N) X.2.1.2.2.1.1 h0 h1
  obtain ⟨R1, F1⟩ := Rn_put (h := h8) (rn := v5) (sd := sd)
  exact ⟨v, _, b1, b2, b3, AcX_rn X F1 R1, RowAt_fc R F1 (fun y hy => by rw [hy]; exact X.2.1.2.2.1.2.1)⟩
theorem AcX_over (X : AcX M v3 v5 v7 κ h8 v6 pu wo ha d K t D g q hd hK ht A d ((q, hd, hK, ht), ea, z, B) Sb Nb) : (∀ F : Option (Int32 × zH), onO 12 v6 h8 F = F) ∧ f_X12_isOver N v6 h8 = some (b2 (overN d), h8) := ⟨fun F => o12 X.1.2.1, L_over X.1.2.1 (PW_g X.1)⟩
theorem AcX_rand (hNN : 1400 < N) (X : AcX M v3 v5 v7 κ h8 v6 pu wo ha d K t D g q hd hK ht A d ((q, hd, hK, ht), ea, z, B) Sb Nb) : ∃ h' e, f_L_random N v5 (nI (d 0)) h8 = some (hS h8, h') ∧ e < fctN (d 0) ∧ RowAt M h' (hS h8) (d 0) e ∧ AcX M v3 v5 v7 κ h' v6 pu wo ha d K t D g q hd hK ht A d ((q, hd, hK, ht), ea, z, B) (Sb + 1) (Nb + 5) := by
  have hD := PW_g X.1
  obtain ⟨g9, h2, e, w1, w2, w3, w4, w5, w6, w7⟩ := L_random (N := N) (h := h8) (by omega) hD.1.1 X.2.1.2.2.1.1 X.2.1.2.2.1.2.2.2.1
  have := (inN_lt hD.1.1).2
  exact ⟨h2, e, w1, w2, ⟨g9, ⟨w3, by omega, fun hm => by have := X.2.1.2.1 _ hm; omega⟩, w4⟩, AcX_le (AcX_rn X w6 w5) (Nat.le_refl _) (by omega)⟩
theorem K_give (hNN : 1400 < N) (X : AcX M v3 v5 v7 κ h8 v6 pu wo ha d K t D g q hd hK ht A d ((q, hd, hK, ht), ea, z, B) Sb Nb) (hj : Q955 P M v3 v5 v7 κ v6 pu wo ha d K t D g q hd hK ht A ea z B i (Sb + 60) (Nb + 300) j955) (hip : (p < d 1 ∧ ip = 1 ∧ cards = d (11 + 19 * p + 1)) ∨ (p = d 1 ∧ ip = 0 ∧ cards = 0)) (e8 : v8 = nI D) (e9 : v9 = nI i) (e10 : A = v10) (e12 : v12 = (-2000000097 : Int32)) (e14 : v14 = nI p) (e15 : v15 = nI ip) (e16 : v16 = nI cards) : P ((onO 11 v5 h8 (f_X11_below N v5 (9 : Int32) h8)).bind fun y46 => zjn (fun (v8 : Int32) (v9 : Int32) (v10 : Nat) (v12 : Int32) (v14 : Int32) (v15 : Int32) (v16 : Int32) (s0 : Int32) (h : zH) => (gI h v6 12 0).bind fun x47 => (f_L_random N v5 x47 h).bind fun y48 => zjn (fun (v8 : Int32) (v9 : Int32) (v10 : Nat) (v12 : Int32) (v14 : Int32) (v15 : Int32) (v16 : Int32) (v19 : Int32) (v20 : Nat) (s0 : Int32) (h : zH) => zjn (fun (v8 : Int32) (v9 : Int32) (v10 : Nat) (v12 : Int32) (v14 : Int32) (v15 : Int32) (v16 : Int32) (v19 : Int32) (v20 : Nat) (v21 : Int32) (s0 : Int32) (h : zH) => zjn (fun (v8 : Int32) (v9 : Int32) (v10 : Nat) (v11 : Int32) (v12 : Int32) (v14 : Int32) (v20 : Nat) (v21 : Int32) (h : zH) => zjn (fun (v8 : Int32) (v9 : Int32) (v10 : Nat) (v11 : Int32) (v12 : Int32) (v14 : Int32) (v20 : Nat) (v21 : Int32) (h : zH) => (f_L_number N v20 h).bind fun y57 => (f_L_give N v3 v14 y57.1 v21 y57.2).bind fun y58 => zjn (fun (v8 : Int32) (v9 : Int32) (v10 : Nat) (v11 : Int32) (s0 : Int32) (h : zH) => j955 s0 v8 v9 v10 v11 h) (fun (j558 : Int32 → Int32 → Nat → Int32 → Int32 → zH → Option ((Int32 ⊕ Nat) × zH)) => if y58.1 = v12 then j558 v8 v9 v10 v11 (1 : Int32) y58.2 else j558 v8 v9 v10 v11 (0 : Int32) y58.2)) (fun (j535 : Int32 → Int32 → Nat → Int32 → Int32 → Int32 → Nat → Int32 → zH → Option ((Int32 ⊕ Nat) × zH)) => if v11 = 0 then j535 v8 v9 v10 v11 v12 v14 v20 v21 h else (gA h v6 12 3).bind fun x50 => (gA h v6 12 3).bind fun x51 => (ldQ h x51 v14).bind fun x52 => (nwOb 9 [.int 0, .null, .int 0] h).bind fun y53 => (f_X9_init N y53.1 v14 v20 v21 y53.2).bind fun y54 => (f_L_with N x52 y53.1 y54).bind fun y55 => (stR y55.2 x50 v14 y55.1).bind fun h56 => j535 v8 v9 v10 v11 v12 v14 v20 v21 h56)) (fun (j498 : Int32 → Int32 → Nat → Int32 → Int32 → Int32 → Nat → Int32 → zH → Option ((Int32 ⊕ Nat) × zH)) => if v15 = 0 then j498 v8 v9 v10 s0 v12 v14 v20 v21 h else zjn (fun (v8 : Int32) (v9 : Int32) (v10 : Nat) (v11 : Int32) (v14 : Int32) (v20 : Nat) (v21 : Int32) (s0 : Int32) (h : zH) => j498 v8 v9 v10 v11 s0 v14 v20 v21 h) (fun (j496 : Int32 → Int32 → Nat → Int32 → Int32 → Nat → Int32 → Int32 → zH → Option ((Int32 ⊕ Nat) × zH)) => if v19 = 0 then j496 v8 v9 v10 s0 v14 v20 v21 (-2000000098 : Int32) h else if s0 = 0 then j496 v8 v9 v10 s0 v14 v20 v21 (-2000000099 : Int32) h else j496 v8 v9 v10 s0 v14 v20 v21 (v16 + (1 : Int32)) h))) (fun (j465 : Int32 → Int32 → Nat → Int32 → Int32 → Int32 → Int32 → Int32 → Nat → Int32 → Int32 → zH → Option ((Int32 ⊕ Nat) × zH)) => zjn (fun (v8 : Int32) (v9 : Int32) (v10 : Nat) (v12 : Int32) (v14 : Int32) (v15 : Int32) (v16 : Int32) (v19 : Int32) (v20 : Nat) (v21 : Int32) (h : zH) => j465 v8 v9 v10 v12 v14 v15 v16 v19 v20 v21 (0 : Int32) h) (fun (j464 : Int32 → Int32 → Nat → Int32 → Int32 → Int32 → Int32 → Int32 → Nat → Int32 → zH → Option ((Int32 ⊕ Nat) × zH)) => if v15 = 0 then j464 v8 v9 v10 v12 v14 v15 v16 v19 v20 s0 h else if v19 = 0 then j464 v8 v9 v10 v12 v14 v15 v16 v19 v20 s0 h else if (8 : Int32) ≤ v16 then j464 v8 v9 v10 v12 v14 v15 v16 v19 v20 s0 h else j465 v8 v9 v10 v12 v14 v15 v16 v19 v20 s0 (1 : Int32) h))) (fun (j441 : Int32 → Int32 → Nat → Int32 → Int32 → Int32 → Int32 → Int32 → Nat → Int32 → zH → Option ((Int32 ⊕ Nat) × zH)) => if s0 = 0 then j441 v8 v9 v10 v12 v14 v15 v16 s0 y48.1 (1000 : Int32) y48.2 else (onO 11 v5 y48.2 (f_X11_below N v5 (20 : Int32) y48.2)).bind fun y49 => j441 v8 v9 v10 v12 v14 v15 v16 s0 y48.1 ((1 : Int32) + y49.1) y49.2)) (fun (j407 : Int32 → Int32 → Nat → Int32 → Int32 → Int32 → Int32 → Int32 → zH → Option ((Int32 ⊕ Nat) × zH)) => if y46.1 ≤ 0 then j407 v8 v9 v10 v12 v14 v15 v16 (0 : Int32) y46.2 else j407 v8 v9 v10 v12 v14 v15 v16 (1 : Int32) y46.2)) := by
  subst e8 e9 e10 e12 e14 e15 e16
  have hD := PW_g X.1
  have hz := SzD_of hD
  have d15 := hz.1
  have c8 : cards ≤ 8 := by
    rcases hip with ⟨h1, h2, h3⟩ | ⟨h1, h2, h3⟩
    · rw [h3]; exact hz.2.2 p h1
    · omega
  obtain ⟨v, h1, vv1, vv2, vv3, X1⟩ := AcX_bel (N := N) (x := (9 : Int32)) (bd := 9) X rfl (by omega) (by omega)
  refine onP (vv2 _) ?_
  refine bindP vv3 ?_
  refine zjnQ (fun j => ∀ s, s ≤ 1 → P (j (nI D) (nI i) A (-2000000097 : Int32) (nI p) (nI ip) (nI cards) (nI s) h1)) (fun s hs => ?_) (fun j407 q407 => ?_)
  rotate_left
  · by_cases hv : v = 0
    · subst hv
      exact ifPT (show nI 0 ≤ (0 : Int32) from by decide) (q407 0 (by omega))
    · exact ifPF (show ¬ nI v ≤ nI 0 from of_eq_false (nleF (by omega) (by omega))) (q407 1 (by omega))
  refine bindP (rd_ints X1.1.2.1).1 ?_
  obtain ⟨h2, e, w1, w2, R2, X2⟩ := AcX_rand hNN X1
  refine bindP w1 ?_
  refine zjnQ (fun j => ∀ (bs : Nat) (h' : zH), ((s = 0 ∧ bs = 1000) ∨ (s = 1 ∧ 1 ≤ bs ∧ bs ≤ 20)) → AcX M v3 v5 v7 κ h' v6 pu wo ha d K t D g q hd hK ht A d ((q, hd, hK, ht), ea, z, B) (Sb + 1) (Nb + 5) → RowAt M h' (hS h1) (d 0) e → P (j (nI D) (nI i) A (-2000000097 : Int32) (nI p) (nI ip) (nI cards) (nI s) (hS h1) (nI bs) h')) (fun bs h' hb X' R' => ?_) (fun j441 q441 => ?_)
  rotate_left
  · by_cases hv : s = 0
    · subst hv
      exact ifPT (show nI 0 = (0 : Int32) from rfl) (q441 1000 h2 (Or.inl ⟨rfl, rfl⟩) X2 R2)
    · obtain rfl : s = 1 := by omega
      refine ifPF (show ¬ nI 1 = (0 : Int32) from by decide) ?_
      obtain ⟨v9, h3, a1, a2, a3, X3, R3⟩ := AcX_belR (N := N) (x := (20 : Int32)) (bd := 20) X2 R2 rfl (by omega) (by omega)
      refine onP (a2 _) ?_
      refine bindP a3 ?_
      have q9 := q441 (1 + v9) h3 (Or.inr ⟨rfl, by omega, by omega⟩) X3 R3
      rw [← nadd] at q9
      exact q9
  rcases hip with ⟨p1, rfl, p3⟩ | ⟨p1, rfl, p3⟩
  · rcases hb with ⟨rfl, s2⟩ | ⟨rfl, s2, s3⟩
    · refine zjnP ?_
      refine zjnP ?_
      refine ifPF (show ¬ nI 1 = (0 : Int32) from by decide) ?_
      refine ifPT (show nI 0 = (0 : Int32) from rfl) ?_
      refine zjnP ?_
      refine ifPF (show ¬ nI 1 = (0 : Int32) from by decide) ?_
      refine zjnP ?_
      refine ifPT (show nI 0 = (0 : Int32) from rfl) ?_
      refine zjnP ?_
      refine ifPT (show (0 : Int32) = (0 : Int32) from rfl) ?_
      obtain ⟨h9, n1, n2, X9⟩ := R_give0 (p := p) (base := bs) hNN X' (by omega) w2 R' (Or.inr (Or.inl ⟨p1, s2⟩))
      refine bindP n1 ?_
      refine bindP n2 ?_
      refine zjnP ?_
      refine ifPT ?_ ?_
      · show (if d 1 ≤ p then (-2000000097 : Int32) else if bs = 1000 then (-2000000098 : Int32) else (-2000000099 : Int32)) = (-2000000098 : Int32); rw [if_neg (by omega), if_pos s2]
      exact hj.1 h9 (AcX_le X9 (by omega) (by omega))
    · by_cases hc : cards < 8
      · refine zjnP ?_
        refine zjnP ?_
        refine ifPF (show ¬ nI 1 = (0 : Int32) from by decide) ?_
        refine ifPF (show ¬ nI 1 = (0 : Int32) from by decide) ?_
        refine ifPF (show ¬ nI 8 ≤ nI cards from of_eq_false (nleF (by omega) (by omega))) ?_
        refine zjnP ?_
        refine ifPF (show ¬ nI 1 = (0 : Int32) from by decide) ?_
        refine zjnP ?_
        refine ifPF (show ¬ nI 1 = (0 : Int32) from by decide) ?_
        refine ifPF (show ¬ nI 1 = (0 : Int32) from by decide) ?_
        refine zjnP ?_
        refine ifPF (show ¬ nI 1 = (0 : Int32) from by decide) ?_
        obtain ⟨r0, k1, k2, k3, k4, k5, r1, u1, u2, u3, u4, u5, u6, u7, X9⟩ := R_give1 (p := p) (base := bs) hNN X' p1 (by omega) w2 R' (by omega) (by omega)
        have ra := (rd_rows X'.1.2.1).2.2.1
        refine bindP ra ?_
        refine bindP ra ?_
        refine bindP u1 ?_
        refine bindP u2 ?_
        refine bindP u3 ?_
        refine bindP u4 ?_
        refine bindP u5 ?_
        refine bindP u6 ?_
        refine bindP u7 ?_
        refine zjnP ?_
        refine ifPT ?_ ?_
        · show nI (d (11 + 19 * p + 1) + 1) = nI cards + nI 1
          rw [nadd, p3]
        exact hj.2 k5 _ (AcX_le X9 (by omega) (by omega))
      · refine zjnP ?_
        refine zjnP ?_
        refine ifPF (show ¬ nI 1 = (0 : Int32) from by decide) ?_
        refine ifPF (show ¬ nI 1 = (0 : Int32) from by decide) ?_
        refine ifPT (show nI 8 ≤ nI cards from of_eq_true (nleT (by omega) (by omega))) ?_
        refine zjnP ?_
        refine ifPF (show ¬ nI 1 = (0 : Int32) from by decide) ?_
        refine zjnP ?_
        refine ifPF (show ¬ nI 1 = (0 : Int32) from by decide) ?_
        refine ifPT (show (0 : Int32) = (0 : Int32) from rfl) ?_
        refine zjnP ?_
        refine ifPT (show (0 : Int32) = (0 : Int32) from rfl) ?_
        obtain ⟨h9, n1, n2, X9⟩ := R_give0 (p := p) (base := bs) hNN X' (by omega) w2 R' (Or.inr (Or.inr ⟨p1, s2, by omega, by omega⟩))
        refine bindP n1 ?_
        refine bindP n2 ?_
        refine zjnP ?_
        refine ifPT ?_ ?_
        · show (if d 1 ≤ p then (-2000000097 : Int32) else if bs = 1000 then (-2000000098 : Int32) else (-2000000099 : Int32)) = (-2000000099 : Int32); rw [if_neg (by omega), if_neg (by omega)]
        exact hj.1 h9 (AcX_le X9 (by omega) (by omega))
  · refine zjnP ?_
    refine zjnP ?_
    refine ifPT (show nI 0 = (0 : Int32) from rfl) ?_
    refine zjnP ?_
    refine ifPT (show nI 0 = (0 : Int32) from rfl) ?_
    refine zjnP ?_
    refine ifPT (show (0 : Int32) = (0 : Int32) from rfl) ?_
    obtain ⟨h9, n1, n2, X9⟩ := R_give0 (p := p) (base := bs) hNN X' (by omega) w2 R' (Or.inl (by omega))
    refine bindP n1 ?_
    refine bindP n2 ?_
    refine zjnP ?_
    refine ifPT ?_ ?_
    · show (if d 1 ≤ p then (-2000000097 : Int32) else if bs = 1000 then (-2000000098 : Int32) else (-2000000099 : Int32)) = (-2000000097 : Int32); rw [if_pos (by omega)]
    exact hj.1 h9 (AcX_le X9 (by omega) (by omega))
theorem K_disc (hNN : 1400 < N) (X : AcX M v3 v5 v7 κ h8 v6 pu wo ha d K t D g q hd hK ht A d ((q, hd, hK, ht), ea, z, B) Sb Nb) (hj : Q955 P M v3 v5 v7 κ v6 pu wo ha d K t D g q hd hK ht A ea z B i (Sb + 60) (Nb + 300) j955) (hip : (p < d 1 ∧ ip = 1 ∧ cards = d (11 + 19 * p + 1)) ∨ (p = d 1 ∧ ip = 0 ∧ cards = 0)) (e8 : v8 = nI D) (e9 : v9 = nI i) (e10 : A = v10) (e12 : v12 = (-2000000097 : Int32)) (e14 : v14 = nI p) (e15 : v15 = nI ip) (e16 : v16 = nI cards) : P ((onO 11 v5 h8 (f_X11_below N v5 (v16 + (1 : Int32)) h8)).bind fun y59 => zjn (fun (v8 : Int32) (v9 : Int32) (v10 : Nat) (v12 : Int32) (v14 : Int32) (v15 : Int32) (v22 : Int32) (s0 : Int32) (h : zH) => zjn (fun (v8 : Int32) (v9 : Int32) (v10 : Nat) (v11 : Int32) (v12 : Int32) (v14 : Int32) (v22 : Int32) (h : zH) => zjn (fun (v8 : Int32) (v9 : Int32) (v10 : Nat) (v11 : Int32) (v12 : Int32) (v14 : Int32) (v22 : Int32) (h : zH) => (f_L_discard N v3 v14 v22 h).bind fun y70 => zjn (fun (v8 : Int32) (v9 : Int32) (v10 : Nat) (v11 : Int32) (s0 : Int32) (h : zH) => j955 s0 v8 v9 v10 v11 h) (fun (j670 : Int32 → Int32 → Nat → Int32 → Int32 → zH → Option ((Int32 ⊕ Nat) × zH)) => if y70.1 = v12 then j670 v8 v9 v10 v11 (1 : Int32) y70.2 else j670 v8 v9 v10 v11 (0 : Int32) y70.2)) (fun (j652 : Int32 → Int32 → Nat → Int32 → Int32 → Int32 → Int32 → zH → Option ((Int32 ⊕ Nat) × zH)) => if v11 = 0 then j652 v8 v9 v10 v11 v12 v14 v22 h else (gA h v6 12 3).bind fun x65 => (gA h v6 12 3).bind fun x66 => (ldQ h x66 v14).bind fun x67 => (f_L_without N x67 v22 h).bind fun y68 => (stR y68.2 x65 v14 y68.1).bind fun h69 => j652 v8 v9 v10 v11 v12 v14 v22 h69)) (fun (j626 : Int32 → Int32 → Nat → Int32 → Int32 → Int32 → Int32 → zH → Option ((Int32 ⊕ Nat) × zH)) => if v15 = 0 then j626 v8 v9 v10 s0 v12 v14 v22 h else zjn (fun (v8 : Int32) (v9 : Int32) (v10 : Nat) (v11 : Int32) (v14 : Int32) (v22 : Int32) (s0 : Int32) (h : zH) => j626 v8 v9 v10 v11 s0 v14 v22 h) (fun (j624 : Int32 → Int32 → Nat → Int32 → Int32 → Int32 → Int32 → zH → Option ((Int32 ⊕ Nat) × zH)) => if s0 = 0 then j624 v8 v9 v10 s0 v14 v22 (-2000000100 : Int32) h else (gA h v6 12 3).bind fun x60 => (ldQ h x60 v14).bind fun x61 => (ldQ h x61 v22).bind fun x62 => (gA h x62 9 1).bind fun x63 => (f_L_number N x63 h).bind fun y64 => j624 v8 v9 v10 s0 v14 v22 y64.1 y64.2))) (fun (j590 : Int32 → Int32 → Nat → Int32 → Int32 → Int32 → Int32 → Int32 → zH → Option ((Int32 ⊕ Nat) × zH)) => zjn (fun (v8 : Int32) (v9 : Int32) (v10 : Nat) (v12 : Int32) (v14 : Int32) (v15 : Int32) (v22 : Int32) (h : zH) => j590 v8 v9 v10 v12 v14 v15 v22 (0 : Int32) h) (fun (j589 : Int32 → Int32 → Nat → Int32 → Int32 → Int32 → Int32 → zH → Option ((Int32 ⊕ Nat) × zH)) => if v15 = 0 then j589 v8 v9 v10 v12 v14 v15 y59.1 y59.2 else if v16 ≤ y59.1 then j589 v8 v9 v10 v12 v14 v15 y59.1 y59.2 else j590 v8 v9 v10 v12 v14 v15 y59.1 (1 : Int32) y59.2))) := by
  subst e8 e9 e10 e12 e14 e15 e16
  have hD := PW_g X.1
  have hz := SzD_of hD
  have d15 := hz.1
  have c8 : cards ≤ 8 := by
    rcases hip with ⟨h1, h2, h3⟩ | ⟨h1, h2, h3⟩
    · rw [h3]; exact hz.2.2 p h1
    · omega
  obtain ⟨v, h1, vv1, vv2, vv3, X1⟩ := AcX_bel (N := N) (x := nI cards + (1 : Int32)) (bd := cards + 1) X (nadd cards 1) (by omega) (by omega)
  refine onP (vv2 _) ?_
  refine bindP vv3 ?_
  rcases hip with ⟨p1, rfl, p3⟩ | ⟨p1, rfl, p3⟩
  · by_cases hc : v < cards
    · refine zjnP ?_
      refine zjnP ?_
      refine ifPF (show ¬ nI 1 = (0 : Int32) from by decide) ?_
      refine ifPF (show ¬ nI cards ≤ nI v from of_eq_false (nleF (by omega) (by omega))) ?_
      refine zjnP ?_
      refine ifPF (show ¬ nI 1 = (0 : Int32) from by decide) ?_
      refine zjnP ?_
      refine ifPF (show ¬ (1 : Int32) = (0 : Int32) from by decide) ?_
      obtain ⟨r0, k, er, k1, k2, k3, r1, u, u1, u2, u3, u4, u5, u6, u7, X9⟩ := R_disc1 (p := p) (c := v) hNN X1 p1 (by omega)
      have ra := (rd_rows X1.1.2.1).2.2.1
      refine bindP ra ?_
      refine bindP u1 ?_
      refine bindP u2 ?_
      refine bindP u3 ?_
      refine bindP u4 ?_
      refine zjnP ?_
      refine ifPF (show ¬ (1 : Int32) = (0 : Int32) from by decide) ?_
      refine bindP ra ?_
      refine bindP ra ?_
      refine bindP u1 ?_
      refine bindP u5 ?_
      refine bindP u6 ?_
      refine bindP u7 ?_
      refine zjnP ?_
      refine ifPT rfl ?_
      exact hj.2 k3 _ (AcX_le X9 (by omega) (by omega))
    · refine zjnP ?_
      refine zjnP ?_
      refine ifPF (show ¬ nI 1 = (0 : Int32) from by decide) ?_
      refine ifPT (show nI cards ≤ nI v from of_eq_true (nleT (by omega) (by omega))) ?_
      refine zjnP ?_
      refine ifPF (show ¬ nI 1 = (0 : Int32) from by decide) ?_
      refine zjnP ?_
      refine ifPT (show (0 : Int32) = (0 : Int32) from rfl) ?_
      refine zjnP ?_
      refine ifPT (show (0 : Int32) = (0 : Int32) from rfl) ?_
      obtain ⟨h9, n2, X9⟩ := R_disc0 (p := p) (c := v) hNN X1 (by omega) (by omega) (Or.inr ⟨p1, by omega⟩)
      refine bindP n2 ?_
      refine zjnP ?_
      refine ifPT ?_ ?_
      · show (if d 1 ≤ p then (-2000000097 : Int32) else (-2000000100 : Int32)) = (-2000000100 : Int32); rw [if_neg (by omega)]
      exact hj.1 h9 (AcX_le X9 (by omega) (by omega))
  · refine zjnP ?_
    refine zjnP ?_
    refine ifPT (show nI 0 = (0 : Int32) from rfl) ?_
    refine zjnP ?_
    refine ifPT (show nI 0 = (0 : Int32) from rfl) ?_
    refine zjnP ?_
    refine ifPT (show (0 : Int32) = (0 : Int32) from rfl) ?_
    obtain ⟨h9, n2, X9⟩ := R_disc0 (p := p) (c := v) hNN X1 (by omega) (by omega) (Or.inl (by omega))
    refine bindP n2 ?_
    refine zjnP ?_
    refine ifPT ?_ ?_
    · show (if d 1 ≤ p then (-2000000097 : Int32) else (-2000000100 : Int32)) = (-2000000097 : Int32); rw [if_pos (by omega)]
    exact hj.1 h9 (AcX_le X9 (by omega) (by omega))
theorem K_pass (hNN : 1400 < N) (X : AcX M v3 v5 v7 κ h8 v6 pu wo ha d K t D g q hd hK ht A d ((q, hd, hK, ht), ea, z, B) Sb Nb) (hj : Q955 P M v3 v5 v7 κ v6 pu wo ha d K t D g q hd hK ht A ea z B i (Sb + 60) (Nb + 300) j955) (e8 : v8 = nI D) (e9 : v9 = nI i) (e10 : A = v10) : P ((onO 12 v6 h8 (f_X12_isOver N v6 h8)).bind fun y71 => zjn (fun (v8 : Int32) (v9 : Int32) (v10 : Nat) (s0 : Int32) (h : zH) => (f_L_pass N v3 h).bind fun y72 => zjn (fun (v8 : Int32) (v9 : Int32) (v10 : Nat) (v11 : Int32) (s0 : Int32) (s1 : Int32) (h : zH) => zjn (fun (v8 : Int32) (v9 : Int32) (v10 : Nat) (v11 : Int32) (s0 : Int32) (h : zH) => j955 s0 v8 v9 v10 v11 h) (fun (j716 : Int32 → Int32 → Nat → Int32 → Int32 → zH → Option ((Int32 ⊕ Nat) × zH)) => if s0 = s1 then j716 v8 v9 v10 v11 (1 : Int32) h else j716 v8 v9 v10 v11 (0 : Int32) h)) (fun (j708 : Int32 → Int32 → Nat → Int32 → Int32 → Int32 → zH → Option ((Int32 ⊕ Nat) × zH)) => if s0 = 0 then j708 v8 v9 v10 s0 y72.1 (-2000000099 : Int32) y72.2 else (onO 12 v6 y72.2 (f_X12_pass N v6 y72.2)).bind fun y73 => j708 v8 v9 v10 s0 y72.1 y73.1 y73.2)) (fun (j687 : Int32 → Int32 → Nat → Int32 → zH → Option ((Int32 ⊕ Nat) × zH)) => if y71.1 = 0 then j687 v8 v9 v10 (1 : Int32) y71.2 else j687 v8 v9 v10 (0 : Int32) y71.2)) := by
  subst e8 e9 e10
  obtain ⟨o1, o2⟩ := AcX_over (N := N) X
  refine onP (o1 _) ?_
  refine bindP o2 ?_
  cases ho : overN d with
  | true =>
    refine zjnP ?_
    refine ifPF (show ¬ b2 true = (0 : Int32) from by decide) ?_
    obtain ⟨h9, n2, X9⟩ := R_pass0 hNN X ho
    refine bindP n2 ?_
    refine zjnP ?_
    refine ifPT (show (0 : Int32) = (0 : Int32) from rfl) ?_
    refine zjnP ?_
    refine ifPT rfl ?_
    exact hj.1 h9 (AcX_le X9 (by omega) (by omega))
  | false =>
    refine zjnP ?_
    refine ifPT (show b2 false = (0 : Int32) from rfl) ?_
    obtain ⟨v, h1, h2, d2, u1, u2, u3, X9⟩ := R_pass1 hNN X ho
    refine bindP u1 ?_
    refine zjnP ?_
    refine ifPF (show ¬ (1 : Int32) = (0 : Int32) from by decide) ?_
    refine onP (u3 _) ?_
    refine bindP u2 ?_
    refine zjnP ?_
    refine ifPT rfl ?_
    exact hj.2 h2 _ (AcX_le X9 (by omega) (by omega))
theorem l788_0 {k1 : Int32 → zH → Option ((Int32 ⊕ Nat) × zH)} {x y : Int32} (hNN : 1400 < N) (hP : P (k1 x h8)) : P (f_L_law_l788 N κ L xs v2 v3 v5 v6 v7 v8 v9 v10 (0 : Int32) v12 v17 y k1 N x (0 : Int32) h8) := by
  obtain ⟨f, hf⟩ : ∃ f, N = f + 1 := ⟨N - 1, by omega⟩
  have e : ∀ n : Nat, f_L_law_l788 N κ L xs v2 v3 v5 v6 v7 v8 v9 v10 (0 : Int32) v12 v17 y k1 (n + 1) x (0 : Int32) h8 = k1 x h8 := fun n => by
    rw [f_L_law_l788, if_pos (show (0 : Int32) = (0 : Int32) from rfl)]
    exact ite_self _
  have e2 := e f
  rw [← hf] at e2
  rw [e2]
  exact hP
theorem l788_1 {k1 : Int32 → zH → Option ((Int32 ⊕ Nat) × zH)} {v : Nat} (hNN : 1400 < N) (ho : overN d = false) (hh : hand = d (11 + 19 * d 4 + 1)) (hv : v < d 5) : ∀ (r c0 cu fu : Nat) (h8 : zH) (Sb Nb : Nat), c0 + r = hand → r < fu → cu < hand → AcX M v3 v5 v7 κ h8 v6 pu wo ha d K t D g q hd hK ht A d ((q, hd, hK, ht), ea, z, B) Sb Nb → (∀ c1 h', c1 < hand → AcX M v3 v5 v7 κ h' v6 pu wo ha d K t D g q hd hK ht A d ((q, hd, hK, ht), ea, z, B) (Sb + r) (Nb + 5 * r) → P (k1 (nI c1) h')) → P (f_L_law_l788 N κ L xs v2 v3 v5 v6 v7 v8 v9 v10 (1 : Int32) v12 (nI hand) (nI v) k1 fu (nI cu) (nI c0) h8) := by
  intro r
  induction r with
  | zero =>
    intro c0 cu fu h8 Sb Nb hr hf hc X hP
    obtain ⟨f, rfl⟩ : ∃ f, fu = f + 1 := ⟨fu - 1, by omega⟩
    have hD := PW_g X.1
    have hz := SzD_of hD
    obtain ⟨o1, o3⟩ := overN_false ho
    have h4 : d 4 < d 1 := by have := hD.1.2.2.2.2.1; omega
    have c8 := hz.2.2 _ h4
    rw [f_L_law_l788]
    refine ifPT (show nI hand ≤ nI c0 from of_eq_true (nleT (by omega) (by omega))) ?_
    exact hP cu h8 hc (AcX_le X (by omega) (by omega))
  | succ r ih =>
    intro c0 cu fu h8 Sb Nb hr hf hc X hP
    obtain ⟨f, rfl⟩ : ∃ f, fu = f + 1 := ⟨fu - 1, by omega⟩
    have hD := PW_g X.1
    have hz := SzD_of hD
    obtain ⟨o1, o3⟩ := overN_false ho
    have h4 : d 4 < d 1 := by have := hD.1.2.2.2.2.1; omega
    have c8 := hz.2.2 _ h4
    have d5 : d 5 ≤ 20 := hD.1.2.2.2.2.2.1
    have n5 := (inN_lt hD.1.1).2
    rw [f_L_law_l788]
    refine ifPF (show ¬ nI hand ≤ nI c0 from of_eq_false (nleF (by omega) (by omega))) ?_
    refine ifPF (show ¬ (1 : Int32) = (0 : Int32) from by decide) ?_
    obtain ⟨-, -, r0, b3, b4, b5⟩ := rd_play X.1.2.1 h4 hz.1
    obtain ⟨k, er, pl, y1, y2, y3, y4, y5, y6, y7, y8, -, -⟩ := rd_card (i := c0) b5 (by omega) (by omega)
    obtain ⟨bi, q1, q2, q3⟩ := rd_bids X.1.2.1
    obtain ⟨k', er', pl', t1, t2, t3, t4, t5, t6, t7, t8, -, -⟩ := rd_card (i := v) q3 hv (by omega)
    obtain ⟨e1, e2, e3⟩ := good_card hD h4 (show c0 < d (11 + 19 * d 4 + 1) by omega)
    obtain ⟨e4, e5, e6, e7⟩ := good_bid hD hv
    obtain ⟨gm, m1, m2⟩ := L_times (N := N) (h := h8) (by omega) hD.1.1 e1 e4 y7 t7 y8 t8
    have lt := mul_in hD.1.1 e1 e4
    have f1 : FC nW 1 (d 0) h8 (hNew h8 (.inl (0, d 0, .inl gm)) (d 0)) := FC_new
    have X1 := AcX_le (AcX_nW X f1) (Nat.le_refl (Sb + 1)) (show Nb + d 0 ≤ Nb + 5 by omega)
    have m3 := L_isNeutral (N := N) (by omega) hD.1.1 lt ⟨gm, hM_new_eq (h := h8) (n := d 0), m2⟩
    have ra := rd_rows X.1.2.1
    refine bindP ra.2.2.1 ?_
    refine bindP (rd_ints X.1.2.1).2.2.1 ?_
    refine bindP b3 ?_
    refine bindP y1 ?_
    refine bindP y3 ?_
    refine bindP q1 ?_
    refine bindP t1 ?_
    refine bindP t3 ?_
    refine bindP m1 ?_
    refine bindP m3 ?_
    refine zjnP ?_
    have step : ∀ cu', cu' < hand → P (f_L_law_l788 N κ L xs v2 v3 v5 v6 v7 v8 v9 v10 (1 : Int32) v12 (nI hand) (nI v) k1 f (nI cu') (nI c0 + nI 1) (hNew h8 (.inl (0, d 0, .inl gm)) (d 0))) := fun cu' hcu => by
      rw [nadd]
      exact ih (c0 + 1) cu' f _ (Sb + 1) (Nb + 5) (by omega) (by omega) hcu X1 (fun c1 h' h1 h2 => hP c1 h' h1 (AcX_le h2 (by omega) (by omega)))
    by_cases he : mulN (idxN (d 0) (d (11 + 19 * d 4 + 3 + 2 * c0))) (bidE d v) = 0
    · rw [he]
      refine ifPF (show ¬ b2 (decide (0 = 0)) = (0 : Int32) from by decide) ?_
      exact step c0 (by omega)
    · refine ifPT (show b2 (decide (mulN (idxN (d 0) (d (11 + 19 * d 4 + 3 + 2 * c0))) (bidE d v) = 0)) = (0 : Int32) from by rw [decide_eq_false he]; rfl) ?_
      exact step cu hc
theorem K_can3 (hNN : 1400 < N) (X : AcX M v3 v5 v7 κ h8 v6 pu wo ha d K t D g q hd hK ht A d ((q, hd, hK, ht), ea, z, B) Sb Nb) (hj : Q955 P M v3 v5 v7 κ v6 pu wo ha d K t D g q hd hK ht A ea z B i (Sb + 60) (Nb + 300) j955) (hh : (overN d = true ∧ hand = 0) ∨ (overN d = false ∧ hand = d (11 + 19 * d 4 + 1))) (hca : ca ≤ hand) (e8 : v8 = nI D) (e9 : v9 = nI i) (e10 : A = v10) (e17 : v17 = nI hand) : P ((gA h8 v6 12 7).bind fun x74 => (aLen h8 x74).bind fun x75 => (onO 11 v5 h8 (f_X11_below N v5 (x75 + (1 : Int32)) h8)).bind fun y76 => (onO 12 v6 y76.2 (f_X12_isOver N v6 y76.2)).bind fun y77 => zjn (fun (v8 : Int32) (v9 : Int32) (v10 : Nat) (v17 : Int32) (v18 : Int32) (v23 : Int32) (s0 : Int32) (h : zH) => (onO 12 v6 h (f_X12_isOver N v6 h)).bind fun y80 => zjn (fun (v8 : Int32) (v9 : Int32) (v10 : Nat) (v11 : Int32) (v17 : Int32) (v18 : Int32) (v23 : Int32) (s0 : Int32) (h : zH) => f_L_law_l788 N κ L xs v2 v3 v5 v6 v7 v8 v9 v10 v11 s0 v17 v23 (fun (u91 : Int32) (h92 : zH) => zjn (fun (v8 : Int32) (v9 : Int32) (v10 : Nat) (v11 : Int32) (v12 : Int32) (v18 : Int32) (v23 : Int32) (h : zH) => (f_L_cancel N v3 v18 v23 h).bind fun y94 => zjn (fun (v8 : Int32) (v9 : Int32) (v10 : Nat) (v11 : Int32) (s0 : Int32) (h : zH) => j955 s0 v8 v9 v10 v11 h) (fun (j881 : Int32 → Int32 → Nat → Int32 → Int32 → zH → Option ((Int32 ⊕ Nat) × zH)) => if y94.1 = v12 then j881 v8 v9 v10 v11 (1 : Int32) y94.2 else j881 v8 v9 v10 v11 (0 : Int32) y94.2)) (fun (j863 : Int32 → Int32 → Nat → Int32 → Int32 → Int32 → Int32 → zH → Option ((Int32 ⊕ Nat) × zH)) => if v11 = 0 then j863 v8 v9 v10 v11 s0 u91 v23 h92 else (onO 12 v6 h92 (f_X12_cancel N v6 u91 v23 h92)).bind fun y93 => j863 v8 v9 v10 v11 y93.1 u91 v23 y93.2)) N v18 (0 : Int32) h) (fun (j783 : Int32 → Int32 → Nat → Int32 → Int32 → Int32 → Int32 → Int32 → zH → Option ((Int32 ⊕ Nat) × zH)) => if y80.1 = 0 then j783 v8 v9 v10 s0 v17 v18 v23 (-2000000100 : Int32) y80.2 else j783 v8 v9 v10 s0 v17 v18 v23 (-2000000099 : Int32) y80.2)) (fun (j766 : Int32 → Int32 → Nat → Int32 → Int32 → Int32 → Int32 → zH → Option ((Int32 ⊕ Nat) × zH)) => zjn (fun (v8 : Int32) (v9 : Int32) (v10 : Nat) (v17 : Int32) (v18 : Int32) (v23 : Int32) (h : zH) => j766 v8 v9 v10 v17 v18 v23 (0 : Int32) h) (fun (j765 : Int32 → Int32 → Nat → Int32 → Int32 → Int32 → zH → Option ((Int32 ⊕ Nat) × zH)) => if y77.1 = 0 then if v17 ≤ (nI ca) then j765 v8 v9 v10 v17 (nI ca) y76.1 y77.2 else (gA y77.2 v6 12 7).bind fun x78 => (aLen y77.2 x78).bind fun x79 => if x79 ≤ y76.1 then j765 v8 v9 v10 v17 (nI ca) y76.1 y77.2 else j766 v8 v9 v10 v17 (nI ca) y76.1 (1 : Int32) y77.2 else j765 v8 v9 v10 v17 (nI ca) y76.1 y77.2))) := by
  subst e8 e9 e10 e17
  have hD := PW_g X.1
  have hz := SzD_of hD
  have d15 := hz.1
  have d5 : d 5 ≤ 20 := hD.1.2.2.2.2.2.1
  have c8 : hand ≤ 8 := by
    rcases hh with ⟨h1, h2⟩ | ⟨h1, h2⟩
    · omega
    · obtain ⟨o1, o3⟩ := overN_false h1
      have h4 : d 4 < d 1 := by have := hD.1.2.2.2.2.1; omega
      rw [h2]; exact hz.2.2 _ h4
  obtain ⟨bi, bb1, bb2, -⟩ := rd_bids X.1.2.1
  refine bindP bb1 ?_
  refine bindP bb2 ?_
  obtain ⟨v, h1, vv1, vv2, vv3, X1⟩ := AcX_bel (N := N) (x := nI (d 5) + (1 : Int32)) (bd := d 5 + 1) X (nadd (d 5) 1) (by omega) (by omega)
  refine onP (vv2 _) ?_
  refine bindP vv3 ?_
  obtain ⟨bi1, b3, b4, -⟩ := rd_bids X1.1.2.1
  obtain ⟨o1, o2⟩ := AcX_over (N := N) X1
  refine onP (o1 _) ?_
  refine bindP o2 ?_
  rcases hh with ⟨ho, hh⟩ | ⟨ho, hh⟩
  · rw [ho] at o2 ⊢
    refine zjnP ?_
    refine zjnP ?_
    refine ifPF (show ¬ b2 true = (0 : Int32) from by decide) ?_
    refine onP (o1 _) ?_
    refine bindP o2 ?_
    refine zjnP ?_
    refine ifPF (show ¬ b2 true = (0 : Int32) from by decide) ?_
    refine l788_0 hNN ?_
    refine zjnP ?_
    refine ifPT (show (0 : Int32) = (0 : Int32) from rfl) ?_
    obtain ⟨h9, n2, X9⟩ := R_cancel0 (c := ca) (i := v) hNN X1 (by omega) (by omega) (Or.inl ho)
    refine bindP n2 ?_
    refine zjnP ?_
    refine ifPT ?_ ?_
    · rw [if_pos ho]
    exact hj.1 h9 (AcX_le X9 (by omega) (by omega))
  · rw [ho] at o2 ⊢
    refine zjnP ?_
    refine zjnP ?_
    refine ifPT (show b2 false = (0 : Int32) from rfl) ?_
    by_cases hc : hand ≤ ca
    · refine ifPT (show nI hand ≤ nI ca from of_eq_true (nleT (by omega) (by omega))) ?_
      refine onP (o1 _) ?_
      refine bindP o2 ?_
      refine zjnP ?_
      refine ifPT (show b2 false = (0 : Int32) from rfl) ?_
      refine l788_0 hNN ?_
      refine zjnP ?_
      refine ifPT (show (0 : Int32) = (0 : Int32) from rfl) ?_
      obtain ⟨h9, n2, X9⟩ := R_cancel0 (c := ca) (i := v) hNN X1 (by omega) (by omega) (Or.inr (Or.inl (by omega)))
      refine bindP n2 ?_
      refine zjnP ?_
      refine ifPT ?_ ?_
      · rw [if_neg (by rw [ho]; decide)]
      exact hj.1 h9 (AcX_le X9 (by omega) (by omega))
    · refine ifPF (show ¬ nI hand ≤ nI ca from of_eq_false (nleF (by omega) (by omega))) ?_
      refine bindP b3 ?_
      refine bindP b4 ?_
      by_cases hc5 : d 5 ≤ v
      · refine ifPT (show nI (d 5) ≤ nI v from of_eq_true (nleT (by omega) (by omega))) ?_
        refine onP (o1 _) ?_
        refine bindP o2 ?_
        refine zjnP ?_
        refine ifPT (show b2 false = (0 : Int32) from rfl) ?_
        refine l788_0 hNN ?_
        refine zjnP ?_
        refine ifPT (show (0 : Int32) = (0 : Int32) from rfl) ?_
        obtain ⟨h9, n2, X9⟩ := R_cancel0 (c := ca) (i := v) hNN X1 (by omega) (by omega) (Or.inr (Or.inr hc5))
        refine bindP n2 ?_
        refine zjnP ?_
        refine ifPT ?_ ?_
        · rw [if_neg (by rw [ho]; decide)]
        exact hj.1 h9 (AcX_le X9 (by omega) (by omega))
      · refine ifPF (show ¬ nI (d 5) ≤ nI v from of_eq_false (nleF (by omega) (by omega))) ?_
        refine onP (o1 _) ?_
        refine bindP o2 ?_
        refine zjnP ?_
        refine ifPT (show b2 false = (0 : Int32) from rfl) ?_
        refine l788_1 hNN ho hh (show v < d 5 by omega) hand 0 ca N h1 Sb Nb (by omega) (by omega) (by omega) X1 (fun c1 h2 c2 X2 => ?_)
        refine zjnP ?_
        refine ifPF (show ¬ (1 : Int32) = (0 : Int32) from by decide) ?_
        obtain ⟨u, k1, k2, d2, u1, u2, u3, X9⟩ := R_cancel1 (c := c1) (i := v) hNN X2 ho (by omega) (by omega)
        refine onP u3 ?_
        refine bindP u1 ?_
        refine bindP u2 ?_
        refine zjnP ?_
        refine ifPT rfl ?_
        exact hj.2 k2 _ (AcX_le X9 (by omega) (by omega))
theorem K_can4 (hNN : 1400 < N) (X : AcX M v3 v5 v7 κ h8 v6 pu wo ha d K t D g q hd hK ht A d ((q, hd, hK, ht), ea, z, B) Sb Nb) (hj : Q955 P M v3 v5 v7 κ v6 pu wo ha d K t D g q hd hK ht A ea z B i (Sb + 60) (Nb + 300) j955) (hh : (overN d = true ∧ hand = 0) ∨ (overN d = false ∧ hand = d (11 + 19 * d 4 + 1))) (hca : ca ≤ hand) (e8 : v8 = nI D) (e9 : v9 = nI i) (e10 : A = v10) (e17 : v17 = nI hand) : P ((gA h8 v6 12 7).bind fun x95 => (aLen h8 x95).bind fun x96 => (onO 11 v5 h8 (f_X11_below N v5 (x96 + (1 : Int32)) h8)).bind fun y97 => (onO 12 v6 y97.2 (f_X12_isOver N v6 y97.2)).bind fun y98 => zjn (fun (v8 : Int32) (v9 : Int32) (v10 : Nat) (v17 : Int32) (v18 : Int32) (v23 : Int32) (s0 : Int32) (h : zH) => (onO 12 v6 h (f_X12_isOver N v6 h)).bind fun y101 => zjn (fun (v8 : Int32) (v9 : Int32) (v10 : Nat) (v11 : Int32) (v17 : Int32) (v18 : Int32) (v23 : Int32) (s0 : Int32) (h : zH) => f_L_law_l788 N κ L xs v2 v3 v5 v6 v7 v8 v9 v10 v11 s0 v17 v23 (fun (u112 : Int32) (h113 : zH) => zjn (fun (v8 : Int32) (v9 : Int32) (v10 : Nat) (v11 : Int32) (v12 : Int32) (v18 : Int32) (v23 : Int32) (h : zH) => (f_L_cancel N v3 v18 v23 h).bind fun y115 => zjn (fun (v8 : Int32) (v9 : Int32) (v10 : Nat) (v11 : Int32) (s0 : Int32) (h : zH) => j955 s0 v8 v9 v10 v11 h) (fun (j881 : Int32 → Int32 → Nat → Int32 → Int32 → zH → Option ((Int32 ⊕ Nat) × zH)) => if y115.1 = v12 then j881 v8 v9 v10 v11 (1 : Int32) y115.2 else j881 v8 v9 v10 v11 (0 : Int32) y115.2)) (fun (j863 : Int32 → Int32 → Nat → Int32 → Int32 → Int32 → Int32 → zH → Option ((Int32 ⊕ Nat) × zH)) => if v11 = 0 then j863 v8 v9 v10 v11 s0 u112 v23 h113 else (onO 12 v6 h113 (f_X12_cancel N v6 u112 v23 h113)).bind fun y114 => j863 v8 v9 v10 v11 y114.1 u112 v23 y114.2)) N v18 (0 : Int32) h) (fun (j783 : Int32 → Int32 → Nat → Int32 → Int32 → Int32 → Int32 → Int32 → zH → Option ((Int32 ⊕ Nat) × zH)) => if y101.1 = 0 then j783 v8 v9 v10 s0 v17 v18 v23 (-2000000100 : Int32) y101.2 else j783 v8 v9 v10 s0 v17 v18 v23 (-2000000099 : Int32) y101.2)) (fun (j766 : Int32 → Int32 → Nat → Int32 → Int32 → Int32 → Int32 → zH → Option ((Int32 ⊕ Nat) × zH)) => zjn (fun (v8 : Int32) (v9 : Int32) (v10 : Nat) (v17 : Int32) (v18 : Int32) (v23 : Int32) (h : zH) => j766 v8 v9 v10 v17 v18 v23 (0 : Int32) h) (fun (j765 : Int32 → Int32 → Nat → Int32 → Int32 → Int32 → zH → Option ((Int32 ⊕ Nat) × zH)) => if y98.1 = 0 then if v17 ≤ (nI ca) then j765 v8 v9 v10 v17 (nI ca) y97.1 y98.2 else (gA y98.2 v6 12 7).bind fun x99 => (aLen y98.2 x99).bind fun x100 => if x100 ≤ y97.1 then j765 v8 v9 v10 v17 (nI ca) y97.1 y98.2 else j766 v8 v9 v10 v17 (nI ca) y97.1 (1 : Int32) y98.2 else j765 v8 v9 v10 v17 (nI ca) y97.1 y98.2))) := by
  subst e8 e9 e10 e17
  have hD := PW_g X.1
  have hz := SzD_of hD
  have d15 := hz.1
  have d5 : d 5 ≤ 20 := hD.1.2.2.2.2.2.1
  have c8 : hand ≤ 8 := by
    rcases hh with ⟨h1, h2⟩ | ⟨h1, h2⟩
    · omega
    · obtain ⟨o1, o3⟩ := overN_false h1
      have h4 : d 4 < d 1 := by have := hD.1.2.2.2.2.1; omega
      rw [h2]; exact hz.2.2 _ h4
  obtain ⟨bi, bb1, bb2, -⟩ := rd_bids X.1.2.1
  refine bindP bb1 ?_
  refine bindP bb2 ?_
  obtain ⟨v, h1, vv1, vv2, vv3, X1⟩ := AcX_bel (N := N) (x := nI (d 5) + (1 : Int32)) (bd := d 5 + 1) X (nadd (d 5) 1) (by omega) (by omega)
  refine onP (vv2 _) ?_
  refine bindP vv3 ?_
  obtain ⟨bi1, b3, b4, -⟩ := rd_bids X1.1.2.1
  obtain ⟨o1, o2⟩ := AcX_over (N := N) X1
  refine onP (o1 _) ?_
  refine bindP o2 ?_
  rcases hh with ⟨ho, hh⟩ | ⟨ho, hh⟩
  · rw [ho] at o2 ⊢
    refine zjnP ?_
    refine zjnP ?_
    refine ifPF (show ¬ b2 true = (0 : Int32) from by decide) ?_
    refine onP (o1 _) ?_
    refine bindP o2 ?_
    refine zjnP ?_
    refine ifPF (show ¬ b2 true = (0 : Int32) from by decide) ?_
    refine l788_0 hNN ?_
    refine zjnP ?_
    refine ifPT (show (0 : Int32) = (0 : Int32) from rfl) ?_
    obtain ⟨h9, n2, X9⟩ := R_cancel0 (c := ca) (i := v) hNN X1 (by omega) (by omega) (Or.inl ho)
    refine bindP n2 ?_
    refine zjnP ?_
    refine ifPT ?_ ?_
    · rw [if_pos ho]
    exact hj.1 h9 (AcX_le X9 (by omega) (by omega))
  · rw [ho] at o2 ⊢
    refine zjnP ?_
    refine zjnP ?_
    refine ifPT (show b2 false = (0 : Int32) from rfl) ?_
    by_cases hc : hand ≤ ca
    · refine ifPT (show nI hand ≤ nI ca from of_eq_true (nleT (by omega) (by omega))) ?_
      refine onP (o1 _) ?_
      refine bindP o2 ?_
      refine zjnP ?_
      refine ifPT (show b2 false = (0 : Int32) from rfl) ?_
      refine l788_0 hNN ?_
      refine zjnP ?_
      refine ifPT (show (0 : Int32) = (0 : Int32) from rfl) ?_
      obtain ⟨h9, n2, X9⟩ := R_cancel0 (c := ca) (i := v) hNN X1 (by omega) (by omega) (Or.inr (Or.inl (by omega)))
      refine bindP n2 ?_
      refine zjnP ?_
      refine ifPT ?_ ?_
      · rw [if_neg (by rw [ho]; decide)]
      exact hj.1 h9 (AcX_le X9 (by omega) (by omega))
    · refine ifPF (show ¬ nI hand ≤ nI ca from of_eq_false (nleF (by omega) (by omega))) ?_
      refine bindP b3 ?_
      refine bindP b4 ?_
      by_cases hc5 : d 5 ≤ v
      · refine ifPT (show nI (d 5) ≤ nI v from of_eq_true (nleT (by omega) (by omega))) ?_
        refine onP (o1 _) ?_
        refine bindP o2 ?_
        refine zjnP ?_
        refine ifPT (show b2 false = (0 : Int32) from rfl) ?_
        refine l788_0 hNN ?_
        refine zjnP ?_
        refine ifPT (show (0 : Int32) = (0 : Int32) from rfl) ?_
        obtain ⟨h9, n2, X9⟩ := R_cancel0 (c := ca) (i := v) hNN X1 (by omega) (by omega) (Or.inr (Or.inr hc5))
        refine bindP n2 ?_
        refine zjnP ?_
        refine ifPT ?_ ?_
        · rw [if_neg (by rw [ho]; decide)]
        exact hj.1 h9 (AcX_le X9 (by omega) (by omega))
      · refine ifPF (show ¬ nI (d 5) ≤ nI v from of_eq_false (nleF (by omega) (by omega))) ?_
        refine onP (o1 _) ?_
        refine bindP o2 ?_
        refine zjnP ?_
        refine ifPT (show b2 false = (0 : Int32) from rfl) ?_
        refine l788_1 hNN ho hh (show v < d 5 by omega) hand 0 ca N h1 Sb Nb (by omega) (by omega) (by omega) X1 (fun c1 h2 c2 X2 => ?_)
        refine zjnP ?_
        refine ifPF (show ¬ (1 : Int32) = (0 : Int32) from by decide) ?_
        obtain ⟨u, k1, k2, d2, u1, u2, u3, X9⟩ := R_cancel1 (c := c1) (i := v) hNN X2 ho (by omega) (by omega)
        refine onP u3 ?_
        refine bindP u1 ?_
        refine bindP u2 ?_
        refine zjnP ?_
        refine ifPT rfl ?_
        exact hj.2 k2 _ (AcX_le X9 (by omega) (by omega))
theorem K_can5 (hNN : 1400 < N) (X : AcX M v3 v5 v7 κ h8 v6 pu wo ha d K t D g q hd hK ht A d ((q, hd, hK, ht), ea, z, B) Sb Nb) (hj : Q955 P M v3 v5 v7 κ v6 pu wo ha d K t D g q hd hK ht A ea z B i (Sb + 60) (Nb + 300) j955) (hh : (overN d = true ∧ hand = 0) ∨ (overN d = false ∧ hand = d (11 + 19 * d 4 + 1))) (hca : ca ≤ hand) (e8 : v8 = nI D) (e9 : v9 = nI i) (e10 : A = v10) (e17 : v17 = nI hand) : P ((gA h8 v6 12 7).bind fun x116 => (aLen h8 x116).bind fun x117 => (onO 11 v5 h8 (f_X11_below N v5 (x117 + (1 : Int32)) h8)).bind fun y118 => (onO 12 v6 y118.2 (f_X12_isOver N v6 y118.2)).bind fun y119 => zjn (fun (v8 : Int32) (v9 : Int32) (v10 : Nat) (v17 : Int32) (v18 : Int32) (v23 : Int32) (s0 : Int32) (h : zH) => (onO 12 v6 h (f_X12_isOver N v6 h)).bind fun y122 => zjn (fun (v8 : Int32) (v9 : Int32) (v10 : Nat) (v11 : Int32) (v17 : Int32) (v18 : Int32) (v23 : Int32) (s0 : Int32) (h : zH) => f_L_law_l788 N κ L xs v2 v3 v5 v6 v7 v8 v9 v10 v11 s0 v17 v23 (fun (u133 : Int32) (h134 : zH) => zjn (fun (v8 : Int32) (v9 : Int32) (v10 : Nat) (v11 : Int32) (v12 : Int32) (v18 : Int32) (v23 : Int32) (h : zH) => (f_L_cancel N v3 v18 v23 h).bind fun y136 => zjn (fun (v8 : Int32) (v9 : Int32) (v10 : Nat) (v11 : Int32) (s0 : Int32) (h : zH) => j955 s0 v8 v9 v10 v11 h) (fun (j881 : Int32 → Int32 → Nat → Int32 → Int32 → zH → Option ((Int32 ⊕ Nat) × zH)) => if y136.1 = v12 then j881 v8 v9 v10 v11 (1 : Int32) y136.2 else j881 v8 v9 v10 v11 (0 : Int32) y136.2)) (fun (j863 : Int32 → Int32 → Nat → Int32 → Int32 → Int32 → Int32 → zH → Option ((Int32 ⊕ Nat) × zH)) => if v11 = 0 then j863 v8 v9 v10 v11 s0 u133 v23 h134 else (onO 12 v6 h134 (f_X12_cancel N v6 u133 v23 h134)).bind fun y135 => j863 v8 v9 v10 v11 y135.1 u133 v23 y135.2)) N v18 (0 : Int32) h) (fun (j783 : Int32 → Int32 → Nat → Int32 → Int32 → Int32 → Int32 → Int32 → zH → Option ((Int32 ⊕ Nat) × zH)) => if y122.1 = 0 then j783 v8 v9 v10 s0 v17 v18 v23 (-2000000100 : Int32) y122.2 else j783 v8 v9 v10 s0 v17 v18 v23 (-2000000099 : Int32) y122.2)) (fun (j766 : Int32 → Int32 → Nat → Int32 → Int32 → Int32 → Int32 → zH → Option ((Int32 ⊕ Nat) × zH)) => zjn (fun (v8 : Int32) (v9 : Int32) (v10 : Nat) (v17 : Int32) (v18 : Int32) (v23 : Int32) (h : zH) => j766 v8 v9 v10 v17 v18 v23 (0 : Int32) h) (fun (j765 : Int32 → Int32 → Nat → Int32 → Int32 → Int32 → zH → Option ((Int32 ⊕ Nat) × zH)) => if y119.1 = 0 then if v17 ≤ (nI ca) then j765 v8 v9 v10 v17 (nI ca) y118.1 y119.2 else (gA y119.2 v6 12 7).bind fun x120 => (aLen y119.2 x120).bind fun x121 => if x121 ≤ y118.1 then j765 v8 v9 v10 v17 (nI ca) y118.1 y119.2 else j766 v8 v9 v10 v17 (nI ca) y118.1 (1 : Int32) y119.2 else j765 v8 v9 v10 v17 (nI ca) y118.1 y119.2))) := by
  subst e8 e9 e10 e17
  have hD := PW_g X.1
  have hz := SzD_of hD
  have d15 := hz.1
  have d5 : d 5 ≤ 20 := hD.1.2.2.2.2.2.1
  have c8 : hand ≤ 8 := by
    rcases hh with ⟨h1, h2⟩ | ⟨h1, h2⟩
    · omega
    · obtain ⟨o1, o3⟩ := overN_false h1
      have h4 : d 4 < d 1 := by have := hD.1.2.2.2.2.1; omega
      rw [h2]; exact hz.2.2 _ h4
  obtain ⟨bi, bb1, bb2, -⟩ := rd_bids X.1.2.1
  refine bindP bb1 ?_
  refine bindP bb2 ?_
  obtain ⟨v, h1, vv1, vv2, vv3, X1⟩ := AcX_bel (N := N) (x := nI (d 5) + (1 : Int32)) (bd := d 5 + 1) X (nadd (d 5) 1) (by omega) (by omega)
  refine onP (vv2 _) ?_
  refine bindP vv3 ?_
  obtain ⟨bi1, b3, b4, -⟩ := rd_bids X1.1.2.1
  obtain ⟨o1, o2⟩ := AcX_over (N := N) X1
  refine onP (o1 _) ?_
  refine bindP o2 ?_
  rcases hh with ⟨ho, hh⟩ | ⟨ho, hh⟩
  · rw [ho] at o2 ⊢
    refine zjnP ?_
    refine zjnP ?_
    refine ifPF (show ¬ b2 true = (0 : Int32) from by decide) ?_
    refine onP (o1 _) ?_
    refine bindP o2 ?_
    refine zjnP ?_
    refine ifPF (show ¬ b2 true = (0 : Int32) from by decide) ?_
    refine l788_0 hNN ?_
    refine zjnP ?_
    refine ifPT (show (0 : Int32) = (0 : Int32) from rfl) ?_
    obtain ⟨h9, n2, X9⟩ := R_cancel0 (c := ca) (i := v) hNN X1 (by omega) (by omega) (Or.inl ho)
    refine bindP n2 ?_
    refine zjnP ?_
    refine ifPT ?_ ?_
    · rw [if_pos ho]
    exact hj.1 h9 (AcX_le X9 (by omega) (by omega))
  · rw [ho] at o2 ⊢
    refine zjnP ?_
    refine zjnP ?_
    refine ifPT (show b2 false = (0 : Int32) from rfl) ?_
    by_cases hc : hand ≤ ca
    · refine ifPT (show nI hand ≤ nI ca from of_eq_true (nleT (by omega) (by omega))) ?_
      refine onP (o1 _) ?_
      refine bindP o2 ?_
      refine zjnP ?_
      refine ifPT (show b2 false = (0 : Int32) from rfl) ?_
      refine l788_0 hNN ?_
      refine zjnP ?_
      refine ifPT (show (0 : Int32) = (0 : Int32) from rfl) ?_
      obtain ⟨h9, n2, X9⟩ := R_cancel0 (c := ca) (i := v) hNN X1 (by omega) (by omega) (Or.inr (Or.inl (by omega)))
      refine bindP n2 ?_
      refine zjnP ?_
      refine ifPT ?_ ?_
      · rw [if_neg (by rw [ho]; decide)]
      exact hj.1 h9 (AcX_le X9 (by omega) (by omega))
    · refine ifPF (show ¬ nI hand ≤ nI ca from of_eq_false (nleF (by omega) (by omega))) ?_
      refine bindP b3 ?_
      refine bindP b4 ?_
      by_cases hc5 : d 5 ≤ v
      · refine ifPT (show nI (d 5) ≤ nI v from of_eq_true (nleT (by omega) (by omega))) ?_
        refine onP (o1 _) ?_
        refine bindP o2 ?_
        refine zjnP ?_
        refine ifPT (show b2 false = (0 : Int32) from rfl) ?_
        refine l788_0 hNN ?_
        refine zjnP ?_
        refine ifPT (show (0 : Int32) = (0 : Int32) from rfl) ?_
        obtain ⟨h9, n2, X9⟩ := R_cancel0 (c := ca) (i := v) hNN X1 (by omega) (by omega) (Or.inr (Or.inr hc5))
        refine bindP n2 ?_
        refine zjnP ?_
        refine ifPT ?_ ?_
        · rw [if_neg (by rw [ho]; decide)]
        exact hj.1 h9 (AcX_le X9 (by omega) (by omega))
      · refine ifPF (show ¬ nI (d 5) ≤ nI v from of_eq_false (nleF (by omega) (by omega))) ?_
        refine onP (o1 _) ?_
        refine bindP o2 ?_
        refine zjnP ?_
        refine ifPT (show b2 false = (0 : Int32) from rfl) ?_
        refine l788_1 hNN ho hh (show v < d 5 by omega) hand 0 ca N h1 Sb Nb (by omega) (by omega) (by omega) X1 (fun c1 h2 c2 X2 => ?_)
        refine zjnP ?_
        refine ifPF (show ¬ (1 : Int32) = (0 : Int32) from by decide) ?_
        obtain ⟨u, k1, k2, d2, u1, u2, u3, X9⟩ := R_cancel1 (c := c1) (i := v) hNN X2 ho (by omega) (by omega)
        refine onP u3 ?_
        refine bindP u1 ?_
        refine bindP u2 ?_
        refine zjnP ?_
        refine ifPT rfl ?_
        exact hj.2 k2 _ (AcX_le X9 (by omega) (by omega))
theorem K_play (hNN : 1400 < N) (X : AcX M v3 v5 v7 κ h8 v6 pu wo ha d K t D g q hd hK ht A d ((q, hd, hK, ht), ea, z, B) Sb Nb) (hj : Q955 P M v3 v5 v7 κ v6 pu wo ha d K t D g q hd hK ht A ea z B i (Sb + 60) (Nb + 300) j955) (hh : (overN d = true ∧ hand = 0) ∨ (overN d = false ∧ hand = d (11 + 19 * d 4 + 1))) (hca : ca ≤ hand) (e8 : v8 = nI D) (e9 : v9 = nI i) (e10 : A = v10) (e17 : v17 = nI hand) : P ((onO 12 v6 h8 (f_X12_isOver N v6 h8)).bind fun y137 => zjn (fun (v8 : Int32) (v9 : Int32) (v10 : Nat) (v18 : Int32) (s0 : Int32) (h : zH) => (onO 12 v6 h (f_X12_isOver N v6 h)).bind fun y138 => zjn (fun (v8 : Int32) (v9 : Int32) (v10 : Nat) (v11 : Int32) (v18 : Int32) (s0 : Int32) (h : zH) => zjn (fun (v8 : Int32) (v9 : Int32) (v10 : Nat) (v11 : Int32) (v12 : Int32) (v18 : Int32) (h : zH) => (f_L_play N v3 v18 h).bind fun y140 => zjn (fun (v8 : Int32) (v9 : Int32) (v10 : Nat) (v11 : Int32) (s0 : Int32) (h : zH) => j955 s0 v8 v9 v10 v11 h) (fun (j954 : Int32 → Int32 → Nat → Int32 → Int32 → zH → Option ((Int32 ⊕ Nat) × zH)) => if y140.1 = v12 then j954 v8 v9 v10 v11 (1 : Int32) y140.2 else j954 v8 v9 v10 v11 (0 : Int32) y140.2)) (fun (j938 : Int32 → Int32 → Nat → Int32 → Int32 → Int32 → zH → Option ((Int32 ⊕ Nat) × zH)) => if v11 = 0 then j938 v8 v9 v10 v11 s0 v18 h else (onO 12 v6 h (f_X12_play N v6 v18 h)).bind fun y139 => j938 v8 v9 v10 v11 y139.1 v18 y139.2)) (fun (j922 : Int32 → Int32 → Nat → Int32 → Int32 → Int32 → zH → Option ((Int32 ⊕ Nat) × zH)) => if y138.1 = 0 then j922 v8 v9 v10 s0 v18 (-2000000100 : Int32) y138.2 else j922 v8 v9 v10 s0 v18 (-2000000099 : Int32) y138.2)) (fun (j905 : Int32 → Int32 → Nat → Int32 → Int32 → zH → Option ((Int32 ⊕ Nat) × zH)) => zjn (fun (v8 : Int32) (v9 : Int32) (v10 : Nat) (v18 : Int32) (h : zH) => j905 v8 v9 v10 v18 (0 : Int32) h) (fun (j904 : Int32 → Int32 → Nat → Int32 → zH → Option ((Int32 ⊕ Nat) × zH)) => if y137.1 = 0 then if v17 ≤ (nI ca) then j904 v8 v9 v10 (nI ca) y137.2 else j905 v8 v9 v10 (nI ca) (1 : Int32) y137.2 else j904 v8 v9 v10 (nI ca) y137.2))) := by
  subst e8 e9 e10 e17
  have hD := PW_g X.1
  have hz := SzD_of hD
  have d15 := hz.1
  have c8 : hand ≤ 8 := by
    rcases hh with ⟨h1, h2⟩ | ⟨h1, h2⟩
    · omega
    · obtain ⟨o1, o3⟩ := overN_false h1
      have h4 : d 4 < d 1 := by have := hD.1.2.2.2.2.1; omega
      rw [h2]; exact hz.2.2 _ h4
  obtain ⟨o1, o2⟩ := AcX_over (N := N) X
  refine onP (o1 _) ?_
  refine bindP o2 ?_
  rcases hh with ⟨ho, hh⟩ | ⟨ho, hh⟩
  · rw [ho] at o2 ⊢
    refine zjnP ?_
    refine zjnP ?_
    refine ifPF (show ¬ b2 true = (0 : Int32) from by decide) ?_
    refine onP (o1 _) ?_
    refine bindP o2 ?_
    refine zjnP ?_
    refine ifPF (show ¬ b2 true = (0 : Int32) from by decide) ?_
    refine zjnP ?_
    refine ifPT (show (0 : Int32) = (0 : Int32) from rfl) ?_
    obtain ⟨h9, n2, X9⟩ := R_play0 (c := ca) hNN X (by omega) (Or.inl ho)
    refine bindP n2 ?_
    refine zjnP ?_
    refine ifPT ?_ ?_
    · rw [if_pos ho]
    exact hj.1 h9 (AcX_le X9 (by omega) (by omega))
  · rw [ho] at o2 ⊢
    refine zjnP ?_
    refine zjnP ?_
    refine ifPT (show b2 false = (0 : Int32) from rfl) ?_
    by_cases hc : hand ≤ ca
    · refine ifPT (show nI hand ≤ nI ca from of_eq_true (nleT (by omega) (by omega))) ?_
      refine onP (o1 _) ?_
      refine bindP o2 ?_
      refine zjnP ?_
      refine ifPT (show b2 false = (0 : Int32) from rfl) ?_
      refine zjnP ?_
      refine ifPT (show (0 : Int32) = (0 : Int32) from rfl) ?_
      obtain ⟨h9, n2, X9⟩ := R_play0 (c := ca) hNN X (by omega) (Or.inr (by omega))
      refine bindP n2 ?_
      refine zjnP ?_
      refine ifPT ?_ ?_
      · rw [if_neg (by rw [ho]; decide)]
      exact hj.1 h9 (AcX_le X9 (by omega) (by omega))
    · refine ifPF (show ¬ nI hand ≤ nI ca from of_eq_false (nleF (by omega) (by omega))) ?_
      refine onP (o1 _) ?_
      refine bindP o2 ?_
      refine zjnP ?_
      refine ifPT (show b2 false = (0 : Int32) from rfl) ?_
      refine zjnP ?_
      refine ifPF (show ¬ (1 : Int32) = (0 : Int32) from by decide) ?_
      obtain ⟨u, k1, k2, d2, u1, u2, u3, X9⟩ := R_play1 (c := ca) hNN X ho (by omega)
      refine onP u3 ?_
      refine bindP u1 ?_
      refine bindP u2 ?_
      refine zjnP ?_
      refine ifPT rfl ?_
      exact hj.2 k2 _ (AcX_le X9 (by omega) (by omega))
end M95

/-! ===== players and lots by chance ===== -/
section M885
variable {M W : Nat → Prop} {h h' : zH} {N n c m a pu wo ha lo bi P b0 bu K k v : Nat} {tv : Value} {d e t : Nat → Nat} {yy : Nat × (Nat → Nat → Nat) × (Nat → Nat) × (Nat → Nat → Nat)} {ea : Int32} {L S : List Nat} {κ : Nat → Nat} {fp : Nat → Int32}
theorem bd_plays (hNN : 1400 < N) : ∀ (r k fu ns : Nat) (h : zH) (L : List Nat) (e : Nat → Nat) (fp : Nat → Int32), k + r = P → r < fu → Bd M b0 bu κ h L e ns a pu wo ha lo bi P tv fp d K t yy ea → e 1 = k → L.length + 115 * r ≤ 490 → ns + 7 * r < 500 → ∃ h' L' e' ns' fp', (∀ k1, f_L_randomSale_l77 N κ b0 bu (bu + 1) (nI 6) a (nI P) k1 fu (nI k) h = k1 h') ∧ Bd M b0 bu κ h' L' e' ns' a pu wo ha lo bi P tv fp' d K t yy ea ∧ e' 1 = P ∧ e' 0 = e 0 ∧ e' 2 = e 2 ∧ L'.length ≤ L.length + 115 * r ∧ ns' ≤ ns + 7 * r ∧ FC anW (26 * r) (115 * r) h h' := by
  intro r
  induction r with
  | zero =>
    intro k fu ns h L e fp hk hf B he hl hn
    obtain ⟨f, rfl⟩ : ∃ f, fu = f + 1 := ⟨fu - 1, by omega⟩
    have hP5 := B.2.2.2.2.2
    refine ⟨h, L, e, ns, fp, fun k1 => ?_, B, by omega, rfl, rfl, Nat.le_refl _, Nat.le_refl _, FC_rf⟩
    rw [f_L_randomSale_l77]
    simp (disch := omega) only [nleT, ↓reduceIte]
  | succ r ih =>
    intro k fu ns h L e fp hk hf B he hl hn
    obtain ⟨f, rfl⟩ : ∃ f, fu = f + 1 := ⟨fu - 1, by omega⟩
    obtain ⟨E, q, hP, hD, ho, hP5⟩ := B
    have hkP : k < P := by omega
    have gpu := (P_rd q).2.1
    -- the purse
    obtain ⟨u, h1, a1, a2, a3, E1, f1⟩ := E_below (N := N) (bd := 3) E (by omega) (by omega)
    obtain ⟨v, h2, b1, b2, b3, E2, f2⟩ : ∃ (v : Nat) (h2 : zH), v < 100000 ∧ (∀ F : Option (Int32 × zH), onO 11 (bu + 1) h1 F = F) ∧ f_X11_below N (bu + 1) (if u = 0 then nI 100000 else nI 60) h1 = some (nI v, h2) ∧ EnvW M b0 bu κ h2 L d K t yy ea ∧ FC (fun x => x = bu + 1) 0 0 h1 h2 := by
      by_cases hu : u = 0
      · rw [if_pos hu]
        obtain ⟨y, h4, y1, y2, y3, y4, y5⟩ := E_below (N := N) (bd := 100000) E1 (by omega) (by omega)
        exact ⟨y, h4, y1, y2, y3, y4, y5⟩
      · rw [if_neg hu]
        obtain ⟨y, h4, y1, y2, y3, y4, y5⟩ := E_below (N := N) (bd := 60) E1 (by omega) (by omega)
        exact ⟨y, h4, by omega, y2, y3, y4, y5⟩
    have q2 := P_rn E1 (P_rn E q f1 ho) f2 ho
    obtain ⟨h3, c1, q3, f3, c3⟩ := P_pu (v := v) q2 hkP (by omega) (by omega)
    have E3 := Env_own E2 q2 f3 ho
    -- it is written
    obtain ⟨h4, w1, w2, w3, w4, w5⟩ := row1 (h := h3) (x := v)
    have f04 : FC nW 1 1 h3 (hNew h3 (.inl (0, 1, .inl (fun _ => nI 0))) 1) := FC_new
    have q4' := SaleP_fc q3 f04 nW_any (fun _ _ h => h)
    have rd4 := (P_rd q4').2.1
    have l4 : ldI (hNew h3 (.inl (0, 1, .inl (fun _ => nI 0))) 1) pu (nI k) = some (nI v) := by
      obtain ⟨-, -, ⟨fw, gh, z1, -⟩, -⟩ := q4'
      obtain ⟨-, -, ⟨fw', gh', z2, -⟩, -⟩ := q3
      rw [ldI_of' z1 hkP (by omega)]
      rw [ldI_of' z2 hkP (by omega)] at c3
      exact c3
    have E4 := Env_nW E3 w4
    have q4 := SaleP_fc q3 w4 nW_any (fun _ _ h => h)
    obtain ⟨h5, n1, E5, n3⟩ := E_nums (N := N) (i := 1) (ns := [v]) (nu := hS h3) (g := upd (fun _ => nI 0) 0 (nI v)) hNN E4 (by omega) (by show 1 < 100; omega) w3 (by omega) (by have := E3.1.2.2.2.1.2; omega) (fun j hj => by
      have hj : j < 1 := hj
      have : j = 0 := by omega
      subst this
      exact ⟨upS_eq _ _ _, b1⟩) (by have : (kS 1).length = 6 := rfl; show L.length + _ + 6 * 1 + 1 ≤ 660; omega)
    rw [pl_eq] at E5
    have q5 := P_wr E4 q4 n3 ho
    have hP5' := Prs_pl hP (by omega) (show e 1 < 5 by omega) (show v ≤ 99999 by omega)
    have hD5 : LD (plN e v) := LD_pl hD (by omega) (by omega)
    -- an empty hand
    have w6 : nwQ 5 h5 (nI 0) = _ := nwQ5_of (by omega)
    have f6 : FC nW 1 0 h5 (hNew h5 (rfA 0 5 (fun _ => none)) 0) := FC_new
    have E6 := Env_nW E5 f6
    have q6 := SaleP_fc q5 f6 nW_any (fun _ _ h => h)
    have hz : plN e v (11 + 19 * k + 1) = 0 := by
      rw [plN_ne (by omega) (by omega)]
      exact (hD.2.2.2.2.2 k (by omega) (by omega)).1
    obtain ⟨h7, v1, q7, f7⟩ := P_ha (k := k) (e' := plN e v) q6 hkP (by omega) (fun j hj => plN_ne (by omega) (by omega)) (fun p hp hpk => by
      rw [plN_1] at hp
      exact ⟨by omega, plN_ne (by omega) (by omega), plN_ne (by omega) (by omega), fun i hi => by
        have : e (11 + 19 * p + 1) ≤ 8 := (hD.2.2.2.2.1 p (by omega)).2.1
        exact ⟨plN_ne (by omega) (by omega), plN_ne (by omega) (by omega)⟩⟩) (by rw [upS_eq, ← he, plN_p]) (by rw [hz]; exact CardsAt_mk E5.2.2.1 (fun i hi => absurd hi (Nat.not_lt_zero i)))
    have E7 := Env_own E6 q6 f7 ho
    -- the cards
    obtain ⟨m1, h8, d1, d2, d3, E8, f8⟩ := E_below (N := N) (bd := 7) E7 (by omega) (by omega)
    have q8 := P_rn E7 q7 f8 ho
    have hpl := pl_len b1
    have hLl : (L ++ plX v).length ≤ L.length + 13 := by rw [List.length_append]; omega
    obtain ⟨h9, L9, e9, i1, i2, i3, i4, i5, i6, i7, -⟩ := bd_cards (N := N) (k := k) hNN hkP m1 N (ns + 1) h8 (L ++ plX v) (plN e v) (by omega) ⟨E8, q8, hP5', hD5, ho, hP5⟩ (by rw [plN_1, he]) (by rw [hz]; omega) (by omega) (by omega)
    obtain ⟨h', L', e', ns', fp', j1, j2, j3, j4, j5, j6, j7, j8⟩ := ih (k + 1) f (ns + 1 + m1) h9 L9 e9 _ (by omega) (by omega) i2 i3 (by omega) (by omega)
    refine ⟨h', L', e', ns', fp', fun k1 => ?_, j2, j3, j4.trans (i4.trans (plN_ne (by omega) (by omega))), j5.trans (i5.trans (plN_ne (by omega) (by omega))), by omega, by omega, FC_mono (FC_tr (FC_an f1) (FC_tr (FC_an f2) (FC_tr (FC_an f3) (FC_tr (FC_an w4) (FC_tr (FC_an n3) (FC_tr (FC_an f6) (FC_tr (FC_an f7) (FC_tr (FC_an f8) (FC_tr i7 j8))))))))) (by omega) (by omega) (fun _ _ h => h)⟩
    rw [f_L_randomSale_l77]
    by_cases hu : u = 0
    · rw [if_pos hu] at b3
      simp (disch := omega) only [nlit, nleF, gpu, a2, a3, neqT hu, zjn, b2, b3, c1, w1, rd4, l4, w2, n1, (P_rd q5).2.2.1, w6, v1, nadd, d2, d3, i1, j1, Option.bind_some, ↓reduceIte]
    · rw [if_neg hu] at b3
      simp (disch := omega) only [nlit, nleF, gpu, a2, a3, neqF, zjn, b2, b3, c1, w1, rd4, l4, w2, n1, (P_rd q5).2.2.1, w6, v1, nadd, d2, d3, i1, j1, Option.bind_some, ↓reduceIte]
end M885

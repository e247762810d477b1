/-! ===== a factor ===== -/
section M99990
variable {h h2 : zH} {r0 g m N : Nat} {V B C : Nat → Int32} {cz : Int32} {S B1 D : Nat → Int32} {H : Nat → Nat → Int32} {J : Nat → Int64} {L U Z W : Nat → Int32} {e t b : Nat → Nat} {len q K dep : Nat}
theorem f_factor_deep {rc : Nat → Int32 → zH → Option (Int32 × zH)} {rm : Nat → zH → Option zH} (hNN : 2000 < N) (hT : TxtB B b len) (hT1 : TxtB B1 b len) (hrb : ∀ (S E : Nat → Int32), S 5 ≠ nI 0 → rm m (mset h2 m S B1 D E H J L U Z W) = some (mset h2 m S B1 D E H J L U Z W)) (hP : PSt b len V cz C S e t q K dep) (hdep : dep ≤ 4) (hK : K ≤ q) (hm : 2 * mPos t K ≤ 3 * q) (hh : hgt t K ≤ 2 * dep + 2) (hs : sgAt b len q 40) (hd : dep = 4) : LSt b len (fun V cz C => rset h r0 g V B cz C) (fun S e => mset h2 m S B1 D (dI e) H J L U Z W) V S e t q K dep (f_X7_takeFactor N rc r0 (nI dep) (rset h r0 g V B cz C)) (f_X9_factor N rm m (mset h2 m (S) B1 D (dI e) H J L U Z W)) := by
  obtain ⟨⟨hq, sq, tk, v12, ⟨pm, p1, p2, p3⟩, s3, s5⟩, ⟨s13, s6⟩, hcz, hC, hM, hW⟩ := hP
  have hl := hT.1
  have mn := m_next (N := N) (h := h2) (m := m) (B := B1) (D := D) (E := dI e) (H := H) (J := J) (L := L) (U := U) (Z := Z) (W := W) (S := S) (by omega) hT1 s3 p3 p1
  rw [p2] at mn
  have tk' := tk
  obtain ⟨t3, t5, t4, t6, t7⟩ := tk'
  rw [sq] at t5 t4 t6 t7
  have hK7 : K ≤ 700 := by omega
  have g5 : upd S 4 (nI q) 5 = nI 0 := by rw [upS_ne (by omega)]; exact s5
  have g3 : upd S 4 (nI q) 3 = nI len := by rw [upS_ne (by omega)]; exact s3
  have g13 : upd S 4 (nI q) 13 = nI dep := by rw [upS_ne (by omega)]; exact s13
  obtain ⟨is1, is2⟩ := x_isSign (N := N) (h := h) (q := r0) (g := g) (V := V) (B := B) (cz := cz) (C := C) (p := q) (c := 40) hq ⟨rfl, rfl⟩ (by omega) hT tk
  rw [sq] at is1 is2
  have c5 : gI (rset h r0 g V B cz C) r0 7 5 = some (nI q) := by simp only [rg_I, t5]
  have c4 : gI (rset h r0 g V B cz C) r0 7 4 = some (nI (tkK b len q)) := by simp only [rg_I, t4]
  have oX : O7h r0 (rset h r0 g V B cz C) := fun _ _ => r_o7
  have oM : ∀ (S E : Nat → Int32), O9h m (mset h2 m S B1 D E H J L U Z W) := fun S E _ _ => onO_ms
  have hE : tkE b len q = q + 1 := by
    unfold tkE
    rw [if_neg (by have := hs.1; omega), hs.2]
    rfl
  have hlt := hs.1
  have n40 : nxt b len q = nI 40 := of_eq_true (nxt_T hs)
  rw [n40] at mn
  subst hd
  have hb := hrb (upd (upd (mErr S q (-nI 5) q) 4 (nI (q + 1))) 13 (nI (4 + 1))) (dI e) (by rw [upS_ne (by omega), upS_ne (by omega), mErr_5]; exact errs_ne.2.2.2)
  have hx := m_expectB (N := N) (h := h2) (m := m) (B := B1) (D := D) (E := dI e) (H := H) (J := J) (L := L) (U := U) (Z := Z) (W := W) (c := nI 41) (S := upd (upd (mErr S q (-nI 5) q) 4 (nI (q + 1))) 13 (nI (4 + 1))) (by rw [upS_ne (by omega), upS_ne (by omega), mErr_5]; exact errs_ne.2.2.2)
  have y13 : gI (mset h2 m (upd S 4 (nI q)) B1 D (dI e) H J L U Z W) m 9 13 = some (nI 4) := by simp only [gI_ms, g13]
  have y4 : gI (mset h2 m (upd S 4 (nI q)) B1 D (dI e) H J L U Z W) m 9 4 = some (nI q) := by simp only [gI_ms, upS_eq]
  have z4 : gI (mset h2 m (mErr S q (-nI 5) q) B1 D (dI e) H J L U Z W) m 9 4 = some (nI q) := by simp only [gI_ms, mErr_4]
  have zp4 : pF (mset h2 m (mErr S q (-nI 5) q) B1 D (dI e) H J L U Z W) m 9 4 (.int (nI q + nI 1)) = some (mset h2 m (upd (mErr S q (-nI 5) q) 4 (nI (q + 1))) B1 D (dI e) H J L U Z W) := by rw [nadd]; exact pF_ms4 _
  have x13 : upd (mErr S q (-nI 5) q) 4 (nI (q + 1)) 13 = nI 4 := by rw [upS_ne (by omega), SK_err 13 (by omega) (by omega) (by omega) (by omega)]; exact s13
  have z13 : gI (mset h2 m (upd (mErr S q (-nI 5) q) 4 (nI (q + 1))) B1 D (dI e) H J L U Z W) m 9 13 = some (nI 4) := by simp only [gI_ms, x13]
  have zp13 : pF (mset h2 m (upd (mErr S q (-nI 5) q) 4 (nI (q + 1))) B1 D (dI e) H J L U Z W) m 9 13 (.int (nI 4 + nI 1)) = some (mset h2 m (upd (upd (mErr S q (-nI 5) q) 4 (nI (q + 1))) 13 (nI (4 + 1))) B1 D (dI e) H J L U Z W) := by rw [nadd]; exact pF_ms13 _
  have w13 : gI (mset h2 m (upd (upd (mErr S q (-nI 5) q) 4 (nI (q + 1))) 13 (nI (4 + 1))) B1 D (dI e) H J L U Z W) m 9 13 = some (nI (4 + 1)) := by simp only [gI_ms, upS_eq]
  refine Or.inl ⟨errV V (-nI 5) q, cz, C, upd (upd (upd (mErr S q (-nI 5) q) 4 (nI (q + 1))) 13 (nI (4 + 1))) 13 (nI (4 + 1) - nI 1), e, ?_, ?_, ?_⟩
  · exact cf_deep oX (is1 hs) rfl c5 x_fail
  · exact (mf_deep (oM _ _) (oM _ _) (m_good s5) mn y13 y4 (m_reportN s5)).trans (mf_j37 (oM _ _) (oM _ _) z4 zp4 z13 zp13 hb hx w13 (pF_ms13 _))
  · refine Fl_13 (Fl_13 ?_)
    have f0 := Fl_mk (V := V) (S := S) (p := q) (off := q) (code := -nI 5) errs_ne.2.2.2 hcz hK7
    obtain ⟨a1, a2, a3, a4, a5, a6⟩ := f0
    exact ⟨by rw [upS_ne (by omega)]; exact a1, by rw [upS_ne (by omega)]; exact a2, by rw [upS_ne (by omega)]; exact a3, a4, fun k b1 b2' b3 b4 b5 => by rw [upS_ne b1]; exact a5 k b1 b2' b3 b4 b5, a6⟩
theorem f_factor_par {rc : Nat → Int32 → zH → Option (Int32 × zH)} {rm : Nat → zH → Option zH} (hNN : 2000 < N) (hT : TxtB B b len) (hT1 : TxtB B1 b len) (hrs : dep < 4 → ∀ (V : Nat → Int32) (cz : Int32) (C S : Nat → Int32) (e t : Nat → Nat) (q K : Nat), PSt b len V cz C S e t q K (dep + 1) → K ≤ q → 2 * mPos t K ≤ 3 * q → hgt t K ≤ 2 * (dep + 1) → LSt b len (fun V cz C => rset h r0 g V B cz C) (fun S e => mset h2 m S B1 D (dI e) H J L U Z W) V S e t q K (dep + 1) (rc r0 (nI (dep + 1)) (rset h r0 g V B cz C)) (rm m (mset h2 m (S) B1 D (dI e) H J L U Z W))) (hP : PSt b len V cz C S e t q K dep) (hdep : dep ≤ 4) (hK : K ≤ q) (hm : 2 * mPos t K ≤ 3 * q) (hh : hgt t K ≤ 2 * dep + 2) (hs : sgAt b len q 40) (hd4 : dep < 4) : LSt b len (fun V cz C => rset h r0 g V B cz C) (fun S e => mset h2 m S B1 D (dI e) H J L U Z W) V S e t q K dep (f_X7_takeFactor N rc r0 (nI dep) (rset h r0 g V B cz C)) (f_X9_factor N rm m (mset h2 m (S) B1 D (dI e) H J L U Z W)) := by
  obtain ⟨⟨hq, sq, tk, v12, ⟨pm, p1, p2, p3⟩, s3, s5⟩, ⟨s13, s6⟩, hcz, hC, hM, hW⟩ := hP
  have hl := hT.1
  have mn := m_next (N := N) (h := h2) (m := m) (B := B1) (D := D) (E := dI e) (H := H) (J := J) (L := L) (U := U) (Z := Z) (W := W) (S := S) (by omega) hT1 s3 p3 p1
  rw [p2] at mn
  have tk' := tk
  obtain ⟨t3, t5, t4, t6, t7⟩ := tk'
  rw [sq] at t5 t4 t6 t7
  have hK7 : K ≤ 700 := by omega
  have g5 : upd S 4 (nI q) 5 = nI 0 := by rw [upS_ne (by omega)]; exact s5
  have g3 : upd S 4 (nI q) 3 = nI len := by rw [upS_ne (by omega)]; exact s3
  have g13 : upd S 4 (nI q) 13 = nI dep := by rw [upS_ne (by omega)]; exact s13
  obtain ⟨is1, is2⟩ := x_isSign (N := N) (h := h) (q := r0) (g := g) (V := V) (B := B) (cz := cz) (C := C) (p := q) (c := 40) hq ⟨rfl, rfl⟩ (by omega) hT tk
  rw [sq] at is1 is2
  have c5 : gI (rset h r0 g V B cz C) r0 7 5 = some (nI q) := by simp only [rg_I, t5]
  have c4 : gI (rset h r0 g V B cz C) r0 7 4 = some (nI (tkK b len q)) := by simp only [rg_I, t4]
  have oX : O7h r0 (rset h r0 g V B cz C) := fun _ _ => r_o7
  have oM : ∀ (S E : Nat → Int32), O9h m (mset h2 m S B1 D E H J L U Z W) := fun S E _ _ => onO_ms
  have hE : tkE b len q = q + 1 := by
    unfold tkE
    rw [if_neg (by have := hs.1; omega), hs.2]
    rfl
  have hlt := hs.1
  have n40 : nxt b len q = nI 40 := of_eq_true (nxt_T hs)
  rw [n40] at mn
  rw [hE] at t6
  obtain ⟨V', x1, x2, x3⟩ := x_advance (N := N) (h := h) (q := r0) (g := g) (V := V) (B := B) (cz := cz) (C := C) (p := q + 1) (by omega) hT t3 t6 (by omega)
  have q1le := skp_le (b := b) (show q + 1 ≤ len by omega)
  have hA : At b len V' (upd (upd S 4 (nI (q + 1))) 13 (nI (dep + 1))) (skp b len (q + 1)) := At_mk (by omega) x2 (by rw [x3 12 (by omega) (by omega) (by omega) (by omega)]; exact v12) (by rw [upS_ne (by omega), upS_eq]) (by rw [upS_ne (by omega), upS_ne (by omega)]; exact s3) (by rw [upS_ne (by omega), upS_ne (by omega)]; exact s5)
  have ls := hrs hd4 V' cz C (upd (upd S 4 (nI (q + 1))) 13 (nI (dep + 1))) e t (skp b len (q + 1)) K ⟨hA, ⟨upS_eq _ _ _, by rw [upS_ne (by omega), upS_ne (by omega)]; exact s6⟩, hcz, hC, hM, hW⟩ (by omega) (by omega) (by omega)
  have vk1 : V45 V V' := fun k k4 k5 k6 k7 _ => x3 k k4 k5 k6 k7
  have sk1 : SK3 S (upd (upd S 4 (nI (q + 1))) 13 (nI (dep + 1))) := fun k k4 k5 k6 k12 k13 => by rw [upS_ne k13, upS_ne k4]
  have d4 : ¬ nI dep = nI 4 := of_eq_false (neqF (by omega) (by omega) (by omega))
  have y13 : gI (mset h2 m (upd S 4 (nI q)) B1 D (dI e) H J L U Z W) m 9 13 = some (nI dep) := by simp only [gI_ms, g13]
  have y4 : gI (mset h2 m (upd S 4 (nI q)) B1 D (dI e) H J L U Z W) m 9 4 = some (nI q) := by simp only [gI_ms, upS_eq]
  have yp4 : pF (mset h2 m (upd S 4 (nI q)) B1 D (dI e) H J L U Z W) m 9 4 (.int (nI q + nI 1)) = some (mset h2 m (upd S 4 (nI (q + 1))) B1 D (dI e) H J L U Z W) := by rw [nadd, pF_ms4, upS_upS]
  have z13 : gI (mset h2 m (upd S 4 (nI (q + 1))) B1 D (dI e) H J L U Z W) m 9 13 = some (nI dep) := by simp only [gI_ms, upS_ne (show 13 ≠ 4 by omega), s13]
  have zp13 : pF (mset h2 m (upd S 4 (nI (q + 1))) B1 D (dI e) H J L U Z W) m 9 13 (.int (nI dep + nI 1)) = some (mset h2 m (upd (upd S 4 (nI (q + 1))) 13 (nI (dep + 1))) B1 D (dI e) H J L U Z W) := by rw [nadd]; exact pF_ms13 _
  have hp := mf_par (rm := rm) (oM _ _) (m_good s5) mn y13 d4
  rcases ls with ⟨V2, cz2, C2, S2, e2, a1, a2, a3⟩ | ⟨V2, cz2, C2, S2, e2, t2, q2, K2, a1, a2, a3, a4⟩
  · dsimp only at a1 a2
    have w13 : gI (mset h2 m (S2) B1 D (dI e2) H J L U Z W) m 9 13 = some (S2 13) := by simp only [gI_ms]
    refine Or.inl ⟨V2, cz2, C2, upd S2 13 (S2 13 - nI 1), e2, ?_, ?_, Fl_13 (Fl_tr (V45_VK vk1) sk1 a3)⟩
    · exact cf_par0 oX (fun _ _ => r_o7) (is1 hs) hd4 x1 a1
    · exact hp.trans (mf_j37 (oM _ _) (oM _ _) y4 yp4 z13 zp13 a2 (m_expectB a3.2.1) w13 (pF_ms13 _))
  · dsimp only at a1 a2
    obtain ⟨⟨hq2, sq2, tk2, w12, ⟨pm2, z1, z2, z3⟩, s32, s52⟩, ⟨s132, s62⟩, hcz2, hC2, hM2, hW2⟩ := a3
    obtain ⟨o1, o2, o3, o4, o5, o6, o7, o8, o9⟩ := a4
    have h13 : S2 13 - nI 1 = nI dep := by rw [s132, nsub (by omega), Nat.add_sub_cancel]
    have K27 : K2 ≤ 700 := by omega
    rcases Classical.em (sgAt b len q2 41) with hs2 | hs2
    · obtain ⟨V3, y1, y2, y3, y44⟩ := x_takeSign_y (N := N) (h := h) (q := r0) (g := g) (V := V2) (B := B) (cz := cz2) (C := C2) (p := q2) (c := 41) (by omega) hq2 ⟨rfl, rfl⟩ (by omega) hT tk2 (by rw [sq2]; exact hs2)
      rw [sq2] at y2
      have me := m_expect_y (N := N) (h := h2) (m := m) (B := B1) (D := D) (E := dI e2) (H := H) (J := J) (L := L) (U := U) (Z := Z) (W := W) (S := S2) (c := 41) (by omega) hT1 s32 z3 s52 z1 (by rw [z2]; exact hs2)
      rw [z2] at me
      have hlt2 := hs2.1
      have q3le := skp_le (b := b) (show q2 + 1 ≤ len by omega)
      have w13 : gI (mset h2 m (upd S2 4 (nI (q2 + 1))) B1 D (dI e2) H J L U Z W) m 9 13 = some (S2 13) := by simp only [gI_ms, upS_ne (show 13 ≠ 4 by omega)]
      have wp13 : pF (mset h2 m (upd S2 4 (nI (q2 + 1))) B1 D (dI e2) H J L U Z W) m 9 13 (.int (S2 13 - nI 1)) = some (mset h2 m (upd (upd S2 4 (nI (q2 + 1))) 13 (nI dep)) B1 D (dI e2) H J L U Z W) := by rw [h13]; exact pF_ms13 _
      refine Or.inr ⟨V3, cz2, C2, upd (upd S2 4 (nI (q2 + 1))) 13 (nI dep), e2, t2, skp b len (q2 + 1), K2, ?_, ?_, ⟨?_, ⟨upS_eq _ _ _, by rw [upS_ne (by omega), upS_ne (by omega)]; exact s62⟩, hcz2, hC2, hM2, hW2⟩, ?_⟩
      · exact cf_par1 oX (fun _ _ => r_o7) (fun _ _ => r_o7) (is1 hs) hd4 x1 a1 (Or.inr rfl) y1
      · exact hp.trans (mf_j37 (oM _ _) (oM _ _) y4 yp4 z13 zp13 a2 me w13 wp13)
      · exact At_mk (by omega) y2 (by rw [y3 12 (by omega) (by omega) (by omega) (by omega) (by omega)]; exact w12) (by rw [upS_ne (by omega), upS_eq]) (by rw [upS_ne (by omega), upS_ne (by omega)]; exact s32) (by rw [upS_ne (by omega), upS_ne (by omega)]; exact s52)
      · refine ⟨by omega, V45_tr vk1 (V45_tr o2 y3), fun k k4 k5 k6 k12 => ?_, o4, o5, o6, o7, by omega, by omega⟩
        by_cases k13 : k = 13
        · subst k13
          rw [upS_eq]
          exact s13.symm
        · rw [upS_ne k13, upS_ne k4, o3 k k4 k5 k6 k12, upS_ne k13, upS_ne k4]
    · have xt := x_takeSign_n (N := N) (h := h) (q := r0) (g := g) (V := V2) (B := B) (cz := cz2) (C := C2) (p := q2) (c := 41) hq2 ⟨rfl, rfl⟩ (by omega) hT tk2 (by rw [sq2]; exact hs2)
      rw [sq2] at xt
      have me := m_expect_n (N := N) (h := h2) (m := m) (B := B1) (D := D) (E := dI e2) (H := H) (J := J) (L := L) (U := U) (Z := Z) (W := W) (S := S2) (c := 41) (by omega) (by omega) hT1 s32 z3 s52 z1 (by rw [z2]; exact hs2)
      rw [z2] at me
      have h13' : mErr S2 q2 (-nI 2) q2 13 = S2 13 := SK_err 13 (by omega) (by omega) (by omega) (by omega)
      have w13 : gI (mset h2 m (mErr S2 q2 (-nI 2) q2) B1 D (dI e2) H J L U Z W) m 9 13 = some (S2 13) := by simp only [gI_ms, h13']
      have wp13 : pF (mset h2 m (mErr S2 q2 (-nI 2) q2) B1 D (dI e2) H J L U Z W) m 9 13 (.int (S2 13 - nI 1)) = some (mset h2 m (upd (mErr S2 q2 (-nI 2) q2) 13 (nI dep)) B1 D (dI e2) H J L U Z W) := by rw [h13]; exact pF_ms13 _
      refine Or.inl ⟨errV V2 (-nI 2) q2, cz2, C2, upd (mErr S2 q2 (-nI 2) q2) 13 (nI dep), e2, ?_, ?_, Fl_13 (Fl_tr (VK_tr (V45_VK vk1) (V45_VK o2)) (SK3_tr sk1 (SK_3 o3)) (Fl_mk errs_ne.1 hcz2 K27))⟩
      · exact cf_par1 oX (fun _ _ => r_o7) (fun _ _ => r_o7) (is1 hs) hd4 x1 a1 (Or.inl rfl) xt
      · exact hp.trans (mf_j37 (oM _ _) (oM _ _) y4 yp4 z13 zp13 a2 me w13 wp13)
theorem f_factor_num {rc : Nat → Int32 → zH → Option (Int32 × zH)} {rm : Nat → zH → Option zH} (hNN : 2000 < N) (hT : TxtB B b len) (hT1 : TxtB B1 b len) (hP : PSt b len V cz C S e t q K dep) (hdep : dep ≤ 4) (hK : K ≤ q) (hm : 2 * mPos t K ≤ 3 * q) (hh : hgt t K ≤ 2 * dep + 2) (hs : ¬ sgAt b len q 40) (hk1 : tkK b len q = 1) : LSt b len (fun V cz C => rset h r0 g V B cz C) (fun S e => mset h2 m S B1 D (dI e) H J L U Z W) V S e t q K dep (f_X7_takeFactor N rc r0 (nI dep) (rset h r0 g V B cz C)) (f_X9_factor N rm m (mset h2 m (S) B1 D (dI e) H J L U Z W)) := by
  obtain ⟨⟨hq, sq, tk, v12, ⟨pm, p1, p2, p3⟩, s3, s5⟩, ⟨s13, s6⟩, hcz, hC, hM, hW⟩ := hP
  have hl := hT.1
  have mn := m_next (N := N) (h := h2) (m := m) (B := B1) (D := D) (E := dI e) (H := H) (J := J) (L := L) (U := U) (Z := Z) (W := W) (S := S) (by omega) hT1 s3 p3 p1
  rw [p2] at mn
  have tk' := tk
  obtain ⟨t3, t5, t4, t6, t7⟩ := tk'
  rw [sq] at t5 t4 t6 t7
  have hK7 : K ≤ 700 := by omega
  have g5 : upd S 4 (nI q) 5 = nI 0 := by rw [upS_ne (by omega)]; exact s5
  have g3 : upd S 4 (nI q) 3 = nI len := by rw [upS_ne (by omega)]; exact s3
  have g13 : upd S 4 (nI q) 13 = nI dep := by rw [upS_ne (by omega)]; exact s13
  obtain ⟨is1, is2⟩ := x_isSign (N := N) (h := h) (q := r0) (g := g) (V := V) (B := B) (cz := cz) (C := C) (p := q) (c := 40) hq ⟨rfl, rfl⟩ (by omega) hT tk
  rw [sq] at is1 is2
  have c5 : gI (rset h r0 g V B cz C) r0 7 5 = some (nI q) := by simp only [rg_I, t5]
  have c4 : gI (rset h r0 g V B cz C) r0 7 4 = some (nI (tkK b len q)) := by simp only [rg_I, t4]
  have oX : O7h r0 (rset h r0 g V B cz C) := fun _ _ => r_o7
  have oM : ∀ (S E : Nat → Int32), O9h m (mset h2 m S B1 D E H J L U Z W) := fun S E _ _ => onO_ms
  have n40 : ¬ nxt b len q = nI 40 := of_eq_false (nxt_F hT1 (by omega) hs)
  have dg := m_dgN (N := N) (b := b) (len := len) (q := q) (k := (mset h2 m (upd S 4 (nI q)) B1 D (dI e) H J L U Z W)) hT1
  obtain ⟨mwy, mwn⟩ := m_words (N := N) (h2 := h2) (m := m) (D := D) (H := H) (J := J) (L := L) (U := U) (Z := Z) (W := W) (S := S) (E := dI e) (by omega) hq sq hT1 s3 s5
  have h10 := hM.1
  have k4 := tkK_lt b len q
  rw [hk1, show Nat.beq 1 1 = true from rfl, b2_t'] at dg
  have t41 : ¬ nI (tkK b len q) = nI 2 := of_eq_false (neqF (by omega) (by omega) (by omega))
  have tb := tk_bounds (b := b) hq
  have hp := mf_dig (rm := rm) (oM _ _) (m_good s5) mn n40 dg
  obtain ⟨S', n1, n2, n3, n4, n5⟩ := m_number_y (N := N) (h := h2) (m := m) (B := B1) (D := D) (E := dI e) (H := H) (J := J) (L := L) (U := U) (Z := Z) (W := W) (S := upd S 4 (nI q)) (p := q) (lo := 0) (hi1 := 10000) (hi := nI 9999) (by omega) (by omega) (hi_m (by omega)) hT1 g3 (upS_eq _ _ _) g5 hq (by rw [sq]; exact hk1)
  rw [sq] at n1 n3 n4 n5
  have sks : SK S S' := SK_tr SK_4 n2
  by_cases hv : tkV b len q < 10000
  · obtain ⟨V', x1, x2, x3, x4⟩ := x_takeNumber_y (N := N) (h := h) (q := r0) (g := g) (V := V) (B := B) (cz := cz) (C := C) (p := q) (lo := 0) (hi1 := 10000) (hi := nI 9999) (by omega) (by omega) (hi_c (by omega)) hq hT tk (by rw [sq]; exact hk1) (Nat.zero_le _) (by rw [sq]; exact hv)
    rw [sq] at x2 x4
    obtain ⟨n6, n7, n8⟩ := n4 (Nat.zero_le _) hv
    have hlt : q < len := (tkV_eq hk1).1
    have q1le := skp_le (b := b) tb.2.1
    have htE := tb.2.2.2 hlt
    have em1 := m_emit (N := N) (h2 := h2) (m := m) (B1 := B1) (D := D) (H := H) (J := J) (L := L) (U := U) (Z := Z) (W := W) (S := S') (e := e) (x := 0) n7 h10 (by omega)
    have em2 := m_emit (N := N) (h2 := h2) (m := m) (B1 := B1) (D := D) (H := H) (J := J) (L := L) (U := U) (Z := Z) (W := W) (S := S') (e := upN (upN e (178 + mPos t K) 0) 10 (mPos t K + 1)) (x := tkV b len q) n7 (upN_eq _ _ _) (by omega)
    refine Or.inr ⟨V', nI (K + 1), upd C K (nI (tkV b len q)), S', (upN (upN (upN (upN e (178 + mPos t K) 0) 10 (mPos t K + 1)) (178 + (mPos t K + 1)) (tkV b len q)) 10 (mPos t K + 1 + 1)), upN t K (tkV b len q), skp b len (tkE b len q), K + 1, ?_, ?_, ⟨At_mk tb.2.1 x2 (by rw [x3 12 (by omega) (by omega) (by omega) (by omega) (by omega)]; exact v12) n6 (by rw [sks 3 (by omega) (by omega) (by omega) (by omega)]; exact s3) n7, ⟨by rw [sks 13 (by omega) (by omega) (by omega) (by omega)]; exact s13, n8.trans ((upS_ne (by omega)).trans s6)⟩, rfl, fun k hk => ?_, CdM_va hM (by omega) ⟨fun _ => ⟨rfl, rfl⟩, fun h9 => absurd h9 (by omega)⟩, WFt_push hW (by omega) (fun h9 => absurd h9 (by omega)) (fun _ => by omega)⟩, Ok1_push (by omega) x3 sks e4_keep (by omega)⟩
    · exact cf_num1 (rw' := r0 + 2) oX (is2 hs) c4 t41 x1 (by simp only [rg_A]) (by simp only [rg_I, x4]) (fun _ _ => r_o6) (x_pushC hcz (by omega))
    · exact hp.trans (mf_lit (oM _ _) (oM _ _) (oM _ _) n1 em1 em2)
    · by_cases hkK : k = K
      · subst hkK
        rw [upS_eq, upN_eq]
        unfold clsC
        rw [if_pos hv]
      · rw [upS_ne hkK, upN_ne hkK]
        exact hC k (by omega)
  · obtain ⟨n6, n7⟩ := n5 (Or.inr (by omega))
    have xt := x_takeNumber_r (N := N) (h := h) (q := r0) (g := g) (V := V) (B := B) (cz := cz) (C := C) (p := q) (lo := 0) (hi1 := 10000) (hi := nI 9999) (by omega) (hi_c (by omega)) hq hT tk (by rw [sq]; exact hk1) (Or.inr (by rw [sq]; omega))
    rw [sq] at xt
    have n8 : S' 5 ≠ nI 0 := by rw [n6]; exact errs_ne.2.1
    have em := fun x => m_emitB (N := N) (h2 := h2) (m := m) (B1 := B1) (D := D) (H := H) (J := J) (L := L) (U := U) (Z := Z) (W := W) (E := dI e) (S := S') (x := x) n8
    refine Or.inl ⟨errV V (-nI 3) q, cz, C, S', e, ?_, ?_, ⟨?_, n8, ?_, VK_err, SK_3 sks, K, hK7, hcz⟩⟩
    · exact cf_num0 oX (is2 hs) c4 t41 xt
    · exact hp.trans (mf_lit (oM _ _) (oM _ _) (oM _ _) n1 (em _) (em _))
    · unfold errV
      rw [upS_ne (by omega), upS_eq, n6]
    · unfold errV
      rw [upS_eq, n7]
theorem f_factor_word {rc : Nat → Int32 → zH → Option (Int32 × zH)} {rm : Nat → zH → Option zH} (hNN : 2000 < N) (hT : TxtB B b len) (hT1 : TxtB B1 b len) (hP : PSt b len V cz C S e t q K dep) (hdep : dep ≤ 4) (hK : K ≤ q) (hm : 2 * mPos t K ≤ 3 * q) (hh : hgt t K ≤ 2 * dep + 2) (hs : ¬ sgAt b len q 40) (hk2 : tkK b len q = 2) : LSt b len (fun V cz C => rset h r0 g V B cz C) (fun S e => mset h2 m S B1 D (dI e) H J L U Z W) V S e t q K dep (f_X7_takeFactor N rc r0 (nI dep) (rset h r0 g V B cz C)) (f_X9_factor N rm m (mset h2 m (S) B1 D (dI e) H J L U Z W)) := by
  obtain ⟨⟨hq, sq, tk, v12, ⟨pm, p1, p2, p3⟩, s3, s5⟩, ⟨s13, s6⟩, hcz, hC, hM, hW⟩ := hP
  have hl := hT.1
  have mn := m_next (N := N) (h := h2) (m := m) (B := B1) (D := D) (E := dI e) (H := H) (J := J) (L := L) (U := U) (Z := Z) (W := W) (S := S) (by omega) hT1 s3 p3 p1
  rw [p2] at mn
  have tk' := tk
  obtain ⟨t3, t5, t4, t6, t7⟩ := tk'
  rw [sq] at t5 t4 t6 t7
  have hK7 : K ≤ 700 := by omega
  have g5 : upd S 4 (nI q) 5 = nI 0 := by rw [upS_ne (by omega)]; exact s5
  have g3 : upd S 4 (nI q) 3 = nI len := by rw [upS_ne (by omega)]; exact s3
  have g13 : upd S 4 (nI q) 13 = nI dep := by rw [upS_ne (by omega)]; exact s13
  obtain ⟨is1, is2⟩ := x_isSign (N := N) (h := h) (q := r0) (g := g) (V := V) (B := B) (cz := cz) (C := C) (p := q) (c := 40) hq ⟨rfl, rfl⟩ (by omega) hT tk
  rw [sq] at is1 is2
  have c5 : gI (rset h r0 g V B cz C) r0 7 5 = some (nI q) := by simp only [rg_I, t5]
  have c4 : gI (rset h r0 g V B cz C) r0 7 4 = some (nI (tkK b len q)) := by simp only [rg_I, t4]
  have oX : O7h r0 (rset h r0 g V B cz C) := fun _ _ => r_o7
  have oM : ∀ (S E : Nat → Int32), O9h m (mset h2 m S B1 D E H J L U Z W) := fun S E _ _ => onO_ms
  have n40 : ¬ nxt b len q = nI 40 := of_eq_false (nxt_F hT1 (by omega) hs)
  have dg := m_dgN (N := N) (b := b) (len := len) (q := q) (k := (mset h2 m (upd S 4 (nI q)) B1 D (dI e) H J L U Z W)) hT1
  obtain ⟨mwy, mwn⟩ := m_words (N := N) (h2 := h2) (m := m) (D := D) (H := H) (J := J) (L := L) (U := U) (Z := Z) (W := W) (S := S) (E := dI e) (by omega) hq sq hT1 s3 s5
  have h10 := hM.1
  have k4 := tkK_lt b len q
  have hk1 : ¬ tkK b len q = 1 := by omega
  have dg0 : Nat.beq (tkK b len q) 1 = false := Bool.eq_false_iff.mpr fun h9 => hk1 (Nat.beq_eq.mp h9)
  rw [dg0, b2_f'] at dg
  have ms := m_number_s (N := N) (h := h2) (m := m) (B := B1) (D := D) (E := dI e) (H := H) (J := J) (L := L) (U := U) (Z := Z) (W := W) (S := upd S 4 (nI q)) (p := q) (lo := nI 0) (hi := nI 9999) (by omega) hT1 g3 (upS_eq _ _ _) g5 hq (by rw [sq]; exact hk1)
  rw [sq] at ms
  have e22 : mErr (upd S 4 (nI q)) q (-nI 2) q = mErr S q (-nI 2) q := by
    unfold mErr
    rw [upS_upS]
  rw [e22] at ms
  have meb := fun x => m_emitB (N := N) (h2 := h2) (m := m) (B1 := B1) (D := D) (H := H) (J := J) (L := L) (U := U) (Z := Z) (W := W) (E := dI e) (S := mErr S q (-nI 2) q) (x := x) (by rw [mErr_5]; exact errs_ne.1)
  have hj : f_X9_factor_j142 N rm m (-nI 1) (mset h2 m (upd S 4 (nI q)) B1 D (dI e) H J L U Z W) = some (mset h2 m (mErr S q (-nI 2) q) B1 D (dI e) H J L U Z W) := mf_lit (oM _ _) (oM _ _) (oM _ _) ms (meb _) (meb _)
  have c42 : gI (rset h r0 g V B cz C) r0 7 4 = some (nI 2) := by rw [c4, hk2]
  rcases var_c (N := N) (h := h) (r0 := r0) (g := g) (V := V) (B := B) (C := C) (cz := cz) (by omega) hq sq hT tk with ⟨vc, vn⟩ | ⟨w, c, hc, w4, ww, wn, vc⟩
  · refine Or.inl ⟨errV V (-nI 2) q, cz, C, mErr S q (-nI 2) q, e, ?_, ?_, Fl_mk errs_ne.1 hcz hK7⟩
    · exact cf_word oX (is2 hs) c42 (Or.inl rfl) (vc.trans (cv_n oX c5 x_fail))
    · exact (mf_w4 (rm := rm) (oM _ _) (oM _ _) (m_good s5) mn n40 dg (mwn 5 (by omega) (vn 0 (by omega))) (mwn 6 (by omega) (vn 1 (by omega))) (mwn 7 (by omega) (vn 2 (by omega))) (mwn 8 (by omega) (vn 3 (by omega)))).trans hj
  · subst hc
    obtain ⟨u1, u2, u3⟩ := (wdAt_iff (show 5 + w < 9 by omega) hq).mp ww
    obtain ⟨l1, l2, l3⟩ := wd_ln (show 5 + w < 9 by omega)
    have wle := ww.1
    rw [u2] at t6
    have pc := x_pushC (N := N) (h := h) (q := r0) (g := g) (V := V) (B := B) (C := C) (x := -nI (w + 1)) hcz (by omega)
    obtain ⟨V', x1, x2, x3⟩ := x_advance (N := N) (h := h) (q := r0) (g := g) (V := V) (B := B) (cz := nI (K + 1)) (C := upd C K (-nI (w + 1))) (p := q + wdL (5 + w)) (by omega) hT t3 t6 wle
    have q1le := skp_le (b := b) wle
    have f5 : upd S 4 (nI (q + wdL (5 + w))) 5 = nI 0 := by rw [upS_ne (by omega)]; exact s5
    have em1 := m_emit (N := N) (h2 := h2) (m := m) (B1 := B1) (D := D) (H := H) (J := J) (L := L) (U := U) (Z := Z) (W := W) (S := upd S 4 (nI (q + wdL (5 + w)))) (e := e) (x := 1) f5 h10 (by omega)
    have em2 := m_emit (N := N) (h2 := h2) (m := m) (B1 := B1) (D := D) (H := H) (J := J) (L := L) (U := U) (Z := Z) (W := W) (S := upd S 4 (nI (q + wdL (5 + w)))) (e := upN (upN e (178 + mPos t K) 1) 10 (mPos t K + 1)) (x := w) f5 (upN_eq _ _ _) (by omega)
    have vk1 : V45 V V' := fun k k4 k5 k6 k7 _ => x3 k k4 k5 k6 k7
    have hjw := mf_var (rm := rm) w4 (oM _ _) (oM _ _) em1 em2
    refine Or.inr ⟨V', nI (K + 1), upd C K (-nI (w + 1)), upd S 4 (nI (q + wdL (5 + w))), (upN (upN (upN (upN e (178 + mPos t K) 1) 10 (mPos t K + 1)) (178 + (mPos t K + 1)) (w)) 10 (mPos t K + 1 + 1)), upN t K (10000 + w), skp b len (q + wdL (5 + w)), K + 1, ?_, ?_, ⟨At_mk wle x2 (by rw [x3 12 (by omega) (by omega) (by omega) (by omega)]; exact v12) (upS_eq _ _ _) (by rw [upS_ne (by omega)]; exact s3) f5, ⟨by rw [upS_ne (by omega)]; exact s13, by rw [upS_ne (by omega)]; exact s6⟩, rfl, fun k hk => ?_, CdM_va hM (by omega) ⟨fun h9 => absurd h9 (by omega), fun _ => ⟨rfl, by omega⟩⟩, WFt_push hW (by omega) (fun h9 => absurd h9 (by omega)) (fun _ => by omega)⟩, Ok1_push (by omega) vk1 SK_4 e4_keep (by omega)⟩
    · exact cf_word oX (is2 hs) c42 (Or.inr rfl) (vc.trans (cv_y (of_eq_false (wn_ne w w4)) (by simp only [rg_A]) (fun _ _ => r_o6) pc (fun _ _ => r_o7) x1))
    · refine Eq.trans ?_ hjw
      rcases (show w = 0 ∨ w = 1 ∨ w = 2 ∨ w = 3 by omega) with rfl | rfl | rfl | rfl
      · exact mf_w0 (oM _ _) (oM _ _) (m_good s5) mn n40 dg (mwy 5 (by omega) ww)
      · exact mf_w1 (oM _ _) (oM _ _) (m_good s5) mn n40 dg (mwn 5 (by omega) (wn 0 (by omega))) (mwy 6 (by omega) ww)
      · exact mf_w2 (oM _ _) (oM _ _) (m_good s5) mn n40 dg (mwn 5 (by omega) (wn 0 (by omega))) (mwn 6 (by omega) (wn 1 (by omega))) (mwy 7 (by omega) ww)
      · exact mf_w3 (oM _ _) (oM _ _) (m_good s5) mn n40 dg (mwn 5 (by omega) (wn 0 (by omega))) (mwn 6 (by omega) (wn 1 (by omega))) (mwn 7 (by omega) (wn 2 (by omega))) (mwy 8 (by omega) ww)
    · by_cases hkK : k = K
      · subst hkK
        rw [upS_eq, upN_eq, clsC_v]
      · rw [upS_ne hkK, upN_ne hkK]
        exact hC k (by omega)
theorem f_factor_oth {rc : Nat → Int32 → zH → Option (Int32 × zH)} {rm : Nat → zH → Option zH} (hNN : 2000 < N) (hT : TxtB B b len) (hT1 : TxtB B1 b len) (hP : PSt b len V cz C S e t q K dep) (hdep : dep ≤ 4) (hK : K ≤ q) (hm : 2 * mPos t K ≤ 3 * q) (hh : hgt t K ≤ 2 * dep + 2) (hs : ¬ sgAt b len q 40) (hk1 : ¬ tkK b len q = 1) (hk2 : ¬ tkK b len q = 2) : LSt b len (fun V cz C => rset h r0 g V B cz C) (fun S e => mset h2 m S B1 D (dI e) H J L U Z W) V S e t q K dep (f_X7_takeFactor N rc r0 (nI dep) (rset h r0 g V B cz C)) (f_X9_factor N rm m (mset h2 m (S) B1 D (dI e) H J L U Z W)) := by
  obtain ⟨⟨hq, sq, tk, v12, ⟨pm, p1, p2, p3⟩, s3, s5⟩, ⟨s13, s6⟩, hcz, hC, hM, hW⟩ := hP
  have hl := hT.1
  have mn := m_next (N := N) (h := h2) (m := m) (B := B1) (D := D) (E := dI e) (H := H) (J := J) (L := L) (U := U) (Z := Z) (W := W) (S := S) (by omega) hT1 s3 p3 p1
  rw [p2] at mn
  have tk' := tk
  obtain ⟨t3, t5, t4, t6, t7⟩ := tk'
  rw [sq] at t5 t4 t6 t7
  have hK7 : K ≤ 700 := by omega
  have g5 : upd S 4 (nI q) 5 = nI 0 := by rw [upS_ne (by omega)]; exact s5
  have g3 : upd S 4 (nI q) 3 = nI len := by rw [upS_ne (by omega)]; exact s3
  have g13 : upd S 4 (nI q) 13 = nI dep := by rw [upS_ne (by omega)]; exact s13
  obtain ⟨is1, is2⟩ := x_isSign (N := N) (h := h) (q := r0) (g := g) (V := V) (B := B) (cz := cz) (C := C) (p := q) (c := 40) hq ⟨rfl, rfl⟩ (by omega) hT tk
  rw [sq] at is1 is2
  have c5 : gI (rset h r0 g V B cz C) r0 7 5 = some (nI q) := by simp only [rg_I, t5]
  have c4 : gI (rset h r0 g V B cz C) r0 7 4 = some (nI (tkK b len q)) := by simp only [rg_I, t4]
  have oX : O7h r0 (rset h r0 g V B cz C) := fun _ _ => r_o7
  have oM : ∀ (S E : Nat → Int32), O9h m (mset h2 m S B1 D E H J L U Z W) := fun S E _ _ => onO_ms
  have n40 : ¬ nxt b len q = nI 40 := of_eq_false (nxt_F hT1 (by omega) hs)
  have dg := m_dgN (N := N) (b := b) (len := len) (q := q) (k := (mset h2 m (upd S 4 (nI q)) B1 D (dI e) H J L U Z W)) hT1
  obtain ⟨mwy, mwn⟩ := m_words (N := N) (h2 := h2) (m := m) (D := D) (H := H) (J := J) (L := L) (U := U) (Z := Z) (W := W) (S := S) (E := dI e) (by omega) hq sq hT1 s3 s5
  have h10 := hM.1
  have k4 := tkK_lt b len q
  have dg0 : Nat.beq (tkK b len q) 1 = false := Bool.eq_false_iff.mpr fun h9 => hk1 (Nat.beq_eq.mp h9)
  rw [dg0, b2_f'] at dg
  have ms := m_number_s (N := N) (h := h2) (m := m) (B := B1) (D := D) (E := dI e) (H := H) (J := J) (L := L) (U := U) (Z := Z) (W := W) (S := upd S 4 (nI q)) (p := q) (lo := nI 0) (hi := nI 9999) (by omega) hT1 g3 (upS_eq _ _ _) g5 hq (by rw [sq]; exact hk1)
  rw [sq] at ms
  have e22 : mErr (upd S 4 (nI q)) q (-nI 2) q = mErr S q (-nI 2) q := by
    unfold mErr
    rw [upS_upS]
  rw [e22] at ms
  have meb := fun x => m_emitB (N := N) (h2 := h2) (m := m) (B1 := B1) (D := D) (H := H) (J := J) (L := L) (U := U) (Z := Z) (W := W) (E := dI e) (S := mErr S q (-nI 2) q) (x := x) (by rw [mErr_5]; exact errs_ne.1)
  have hj : f_X9_factor_j142 N rm m (-nI 1) (mset h2 m (upd S 4 (nI q)) B1 D (dI e) H J L U Z W) = some (mset h2 m (mErr S q (-nI 2) q) B1 D (dI e) H J L U Z W) := mf_lit (oM _ _) (oM _ _) (oM _ _) ms (meb _) (meb _)
  have t41 : ¬ nI (tkK b len q) = nI 2 := of_eq_false (neqF (by omega) (by omega) hk2)
  have nw : ∀ i, i < 9 → ¬ wdAt b len q i := fun i hi hw => hk2 ((wdAt_iff hi hq).mp hw).1
  have xt := x_takeNumber_s (N := N) (h := h) (q := r0) (g := g) (V := V) (B := B) (cz := cz) (C := C) (p := q) (lo := nI 0) (hi := nI 9999) hq hT tk (by rw [sq]; exact hk1)
  rw [sq] at xt
  refine Or.inl ⟨errV V (-nI 2) q, cz, C, mErr S q (-nI 2) q, e, ?_, ?_, Fl_mk errs_ne.1 hcz hK7⟩
  · exact cf_num0 oX (is2 hs) c4 t41 xt
  · exact (mf_w4 (rm := rm) (oM _ _) (oM _ _) (m_good s5) mn n40 dg (mwn 5 (by omega) (nw 5 (by omega))) (mwn 6 (by omega) (nw 6 (by omega))) (mwn 7 (by omega) (nw 7 (by omega))) (mwn 8 (by omega) (nw 8 (by omega)))).trans hj
theorem f_factor {rc : Nat → Int32 → zH → Option (Int32 × zH)} {rm : Nat → zH → Option zH} (hNN : 2000 < N) (hT : TxtB B b len) (hT1 : TxtB B1 b len) (hrb : ∀ (S E : Nat → Int32), S 5 ≠ nI 0 → rm m (mset h2 m S B1 D E H J L U Z W) = some (mset h2 m S B1 D E H J L U Z W)) (hrs : dep < 4 → ∀ (V : Nat → Int32) (cz : Int32) (C S : Nat → Int32) (e t : Nat → Nat) (q K : Nat), PSt b len V cz C S e t q K (dep + 1) → K ≤ q → 2 * mPos t K ≤ 3 * q → hgt t K ≤ 2 * (dep + 1) → LSt b len (fun V cz C => rset h r0 g V B cz C) (fun S e => mset h2 m S B1 D (dI e) H J L U Z W) V S e t q K (dep + 1) (rc r0 (nI (dep + 1)) (rset h r0 g V B cz C)) (rm m (mset h2 m (S) B1 D (dI e) H J L U Z W))) (hP : PSt b len V cz C S e t q K dep) (hdep : dep ≤ 4) (hK : K ≤ q) (hm : 2 * mPos t K ≤ 3 * q) (hh : hgt t K ≤ 2 * dep + 2) : LSt b len (fun V cz C => rset h r0 g V B cz C) (fun S e => mset h2 m S B1 D (dI e) H J L U Z W) V S e t q K dep (f_X7_takeFactor N rc r0 (nI dep) (rset h r0 g V B cz C)) (f_X9_factor N rm m (mset h2 m (S) B1 D (dI e) H J L U Z W)) := by
  rcases Classical.em (sgAt b len q 40) with hs | hs
  · by_cases hd : dep = 4
    · exact f_factor_deep hNN hT hT1 hrb hP hdep hK hm hh hs hd
    · exact f_factor_par hNN hT hT1 hrs hP hdep hK hm hh hs (by omega)
  · by_cases hk1 : tkK b len q = 1
    · exact f_factor_num hNN hT hT1 hP hdep hK hm hh hs hk1
    · by_cases hk2 : tkK b len q = 2
      · exact f_factor_word hNN hT hT1 hP hdep hK hm hh hs hk2
      · exact f_factor_oth hNN hT hT1 hP hdep hK hm hh hs hk1 hk2
end M99990

section M99991
variable {h h2 : zH} {r0 g m N : Nat} {V B C : Nat → Int32} {cz : Int32} {S B1 D : Nat → Int32} {H : Nat → Nat → Int32} {J : Nat → Int64} {L U Z W : Nat → Int32} {e t b : Nat → Nat} {len q K dep : Nat}
theorem tt_stop {rc : Nat → Int32 → zH → Option (Int32 × zH)} {rm : Nat → zH → Option zH} {i n n' : Nat} (hNN : 2000 < N) (hT : TxtB B b len) (hT1 : TxtB B1 b len) (hP : PSt b len V cz C S e t q K dep) (hi : i < 700) (hs1 : ¬ sgAt b len q 42) (hs2 : ¬ sgAt b len q 47) : LS0 b len (fun V cz C => rset h r0 g V B cz C) (fun S e => mset h2 m S B1 D (dI e) H J L U Z W) V S e t q K dep (f_X7_takeTerm_l8 N rc r0 (nI dep) (n + 1) (nI 1) (nI i) (rset h r0 g V B cz C)) (f_X9_term_l4 N rm m (n' + 1) (mset h2 m (S) B1 D (dI e) H J L U Z W)) := by
  obtain ⟨⟨hq, sq, tk, v12, ⟨pm, p1, p2, p3⟩, s3, s5⟩, ⟨s13, s6⟩, hcz, hC, hM, hW⟩ := hP
  have mn := m_next (N := N) (h := h2) (m := m) (B := B1) (D := D) (E := dI e) (H := H) (J := J) (L := L) (U := U) (Z := Z) (W := W) (S := S) (by omega) hT1 s3 p3 p1
  rw [p2] at mn
  have g3 : upd S 4 (nI q) 3 = nI len := by rw [upS_ne (by omega)]; exact s3
  have my := m_next (N := N) (h := h2) (m := m) (B := B1) (D := D) (E := dI e) (H := H) (J := J) (L := L) (U := U) (Z := Z) (W := W) (S := upd S 4 (nI q)) (p := q) (by omega) hT1 g3 (upS_eq _ _ _) hq
  rw [sq, upS_upS] at my
  obtain ⟨ia1, ia2⟩ := x_isSign (N := N) (h := h) (q := r0) (g := g) (V := V) (B := B) (cz := cz) (C := C) (p := q) (c := 42) hq ⟨rfl, rfl⟩ (by omega) hT tk
  rw [sq] at ia1 ia2
  obtain ⟨ib1, ib2⟩ := x_isSign (N := N) (h := h) (q := r0) (g := g) (V := V) (B := B) (cz := cz) (C := C) (p := q) (c := 47) hq ⟨rfl, rfl⟩ (by omega) hT tk
  rw [sq] at ib1 ib2
  refine Or.inr ⟨V, cz, C, upd S 4 (nI q), e, t, q, K, ?_, ?_, ⟨⟨hq, sq, tk, v12, ⟨q, hq, sq, upS_eq _ _ _⟩, g3, by rw [upS_ne (by omega)]; exact s5⟩, ⟨by rw [upS_ne (by omega)]; exact s13, by rw [upS_ne (by omega)]; exact s6⟩, hcz, hC, hM, hW⟩, Ok0_S4⟩
  · exact tt_cn (fun _ _ => r_o7) hi (ia2 hs1) (ib2 hs2)
  · exact tt_mn (fun _ _ => onO_ms) (fun _ _ => onO_ms) (m_good s5) mn my (of_eq_false (nxt_F hT1 (by omega) hs1)) (of_eq_false (nxt_F hT1 (by omega) hs2))
theorem tt_loop {rc : Nat → Int32 → zH → Option (Int32 × zH)} {rm : Nat → zH → Option zH} (hNN : 2000 < N) (hT : TxtB B b len) (hT1 : TxtB B1 b len) (hdep : dep ≤ 4)
    (hf : ∀ (V : Nat → Int32) (cz : Int32) (C S : Nat → Int32) (e t : Nat → Nat) (q K : Nat), PSt b len V cz C S e t q K dep → K ≤ q → 2 * mPos t K ≤ 3 * q → hgt t K ≤ 2 * dep + 2 → LSt b len (fun V cz C => rset h r0 g V B cz C) (fun S e => mset h2 m S B1 D (dI e) H J L U Z W) V S e t q K dep (f_X7_takeFactor N rc r0 (nI dep) (rset h r0 g V B cz C)) (f_X9_factor N rm m (mset h2 m (S) B1 D (dI e) H J L U Z W))) :
    ∀ (w i n n' : Nat) (V : Nat → Int32) (cz : Int32) (C S : Nat → Int32) (e t : Nat → Nat) (q K : Nat), PSt b len V cz C S e t q K dep → K ≤ q → 2 * mPos t K ≤ 3 * q + 1 → 1 ≤ hgt t K → hgt t K ≤ 2 * dep + 2 → i < q → len ≤ q + w → w + 1 < n → w + 1 < n' → LS0 b len (fun V cz C => rset h r0 g V B cz C) (fun S e => mset h2 m S B1 D (dI e) H J L U Z W) V S e t q K dep (f_X7_takeTerm_l8 N rc r0 (nI dep) n (nI 1) (nI i) (rset h r0 g V B cz C)) (f_X9_term_l4 N rm m n' (mset h2 m (S) B1 D (dI e) H J L U Z W)) := by
  have hl := hT.1
  intro w
  induction w with
  | zero =>
    intro i n n' V cz C S e t q K hP hK hm hh1 hh2 hi hw hn hn'
    obtain ⟨n, rfl⟩ : ∃ k, n = k + 1 := ⟨n - 1, by omega⟩
    obtain ⟨n', rfl⟩ : ∃ k, n' = k + 1 := ⟨n' - 1, by omega⟩
    obtain ⟨⟨hq, sq, tk, v12, ⟨pm, p1, p2, p3⟩, s3, s5⟩, ⟨s13, s6⟩, hcz, hC, hM, hW⟩ := hP
    exact tt_stop hNN hT hT1 ⟨⟨hq, sq, tk, v12, ⟨pm, p1, p2, p3⟩, s3, s5⟩, ⟨s13, s6⟩, hcz, hC, hM, hW⟩ (by omega) (fun hs => by have := hs.1; omega) (fun hs => by have := hs.1; omega)
  | succ w ih =>
    intro i n n' V cz C S e t q K hP hK hm hh1 hh2 hi hw hn hn'
    obtain ⟨n, rfl⟩ : ∃ k, n = k + 1 := ⟨n - 1, by omega⟩
    obtain ⟨n', rfl⟩ : ∃ k, n' = k + 1 := ⟨n' - 1, by omega⟩
    have hP0 := hP
    obtain ⟨⟨hq, sq, tk, v12, ⟨pm, p1, p2, p3⟩, s3, s5⟩, ⟨s13, s6⟩, hcz, hC, hM, hW⟩ := hP
    have mn := m_next (N := N) (h := h2) (m := m) (B := B1) (D := D) (E := dI e) (H := H) (J := J) (L := L) (U := U) (Z := Z) (W := W) (S := S) (by omega) hT1 s3 p3 p1
    rw [p2] at mn
    have g3 : upd S 4 (nI q) 3 = nI len := by rw [upS_ne (by omega)]; exact s3
    have my := m_next (N := N) (h := h2) (m := m) (B := B1) (D := D) (E := dI e) (H := H) (J := J) (L := L) (U := U) (Z := Z) (W := W) (S := upd S 4 (nI q)) (p := q) (by omega) hT1 g3 (upS_eq _ _ _) hq
    rw [sq, upS_upS] at my
    have tk' := tk
    obtain ⟨t3, t5, t4, t6, t7⟩ := tk'
    rw [sq] at t5 t4 t6 t7
    obtain ⟨ia1, ia2⟩ := x_isSign (N := N) (h := h) (q := r0) (g := g) (V := V) (B := B) (cz := cz) (C := C) (p := q) (c := 42) hq ⟨rfl, rfl⟩ (by omega) hT tk
    rw [sq] at ia1 ia2
    obtain ⟨ib1, ib2⟩ := x_isSign (N := N) (h := h) (q := r0) (g := g) (V := V) (B := B) (cz := cz) (C := C) (p := q) (c := 47) hq ⟨rfl, rfl⟩ (by omega) hT tk
    rw [sq] at ib1 ib2
    have oX : ∀ V cz C, O7h r0 (rset h r0 g V B cz C) := fun V cz C _ _ => r_o7
    have oM : ∀ (S E : Nat → Int32), O9h m (mset h2 m S B1 D E H J L U Z W) := fun S E _ _ => onO_ms
    have y4 : gI (mset h2 m (upd S 4 (nI q)) B1 D (dI e) H J L U Z W) m 9 4 = some (nI q) := by simp only [gI_ms, upS_eq]
    have yp4 : pF (mset h2 m (upd S 4 (nI q)) B1 D (dI e) H J L U Z W) m 9 4 (.int (nI q + nI 1)) = some (mset h2 m (upd S 4 (nI (q + 1))) B1 D (dI e) H J L U Z W) := by rw [nadd, pF_ms4, upS_upS]
    have step : ∀ (tc c : Nat), 10004 ≤ tc → tc ≤ 10007 → sgAt b len q c → (isDg c = false ∧ isLt c = false) →
        (∀ (Y Z T : zH) (v : Int32), f_X7_advance N r0 (rset h r0 g V B cz C) = some Y → f_X7_takeFactor N rc r0 (nI dep) Y = some (v, Z) → O7h r0 Y → gA Z r0 7 10 = some (r0 + 2) → (∀ (β : Type) (G : Option β), onO 6 (r0 + 2) Z G = G) → f_X6_push N (r0 + 2) (-nI (tc - 9999)) Z = some T → f_X7_takeTerm_l8 N rc r0 (nI dep) (n + 1) (nI 1) (nI i) (rset h r0 g V B cz C) = f_X7_takeTerm_l8 N rc r0 (nI dep) n v (nI (i + 1)) T) →
        (∀ (Y3 Y4 : zH), O9h m Y3 → f_X9_factor N rm m (mset h2 m (upd S 4 (nI (q + 1))) B1 D (dI e) H J L U Z W) = some Y3 → f_X9_emit N m (nI (tc - 10002)) Y3 = some Y4 → f_X9_term_l4 N rm m (n' + 1) (mset h2 m (S) B1 D (dI e) H J L U Z W) = f_X9_term_l4 N rm m n' Y4) →
        LS0 b len (fun V cz C => rset h r0 g V B cz C) (fun S e => mset h2 m S B1 D (dI e) H J L U Z W) V S e t q K dep (f_X7_takeTerm_l8 N rc r0 (nI dep) (n + 1) (nI 1) (nI i) (rset h r0 g V B cz C)) (f_X9_term_l4 N rm m (n' + 1) (mset h2 m (S) B1 D (dI e) H J L U Z W)) := by
      intro tc c tc1 tc2 hs hc fc fm
      have hE := tkE_sg hs hc
      have hlt := hs.1
      rw [hE] at t6
      obtain ⟨V', x1, x2, x3⟩ := x_advance (N := N) (h := h) (q := r0) (g := g) (V := V) (B := B) (cz := cz) (C := C) (p := q + 1) (by omega) hT t3 t6 (by omega)
      have q1le := skp_le (b := b) (show q + 1 ≤ len by omega)
      have vk1 : V45 V V' := fun k k4 k5 k6 k7 _ => x3 k k4 k5 k6 k7
      have hA : At b len V' (upd S 4 (nI (q + 1))) (skp b len (q + 1)) := At_mk (by omega) x2 (by rw [x3 12 (by omega) (by omega) (by omega) (by omega)]; exact v12) (upS_eq _ _ _) (by rw [upS_ne (by omega)]; exact s3) (by rw [upS_ne (by omega)]; exact s5)
      have ls := hf V' cz C (upd S 4 (nI (q + 1))) e t (skp b len (q + 1)) K ⟨hA, ⟨by rw [upS_ne (by omega)]; exact s13, by rw [upS_ne (by omega)]; exact s6⟩, hcz, hC, hM, hW⟩ (by omega) (by omega) hh2
      rcases ls with ⟨V2, cz2, C2, S2, e2, a1, a2, a3⟩ | ⟨V2, cz2, C2, S2, e2, t2, q2, K2, a1, a2, a3, a4⟩
      · dsimp only at a1 a2
        obtain ⟨K2, hK2, hcz2⟩ := a3.2.2.2.2.2
        obtain ⟨cz3, C3, K3, ps, hcz3, hK3⟩ := x_pushF (N := N) (h := h) (q := r0) (g := g) (V := V2) (B := B) (C := C2) (x := -nI (tc - 9999)) hcz2 hK2
        have h1 := fc _ _ _ _ x1 a1 (oX _ _ _) (by simp only [rg_A]) (fun _ _ => r_o6) ps
        have h2' := fm _ _ (oM _ _) a2 (m_emitB (N := N) (h2 := h2) (m := m) (B1 := B1) (D := D) (H := H) (J := J) (L := L) (U := U) (Z := Z) (W := W) a3.2.1)
        obtain ⟨n, rfl⟩ : ∃ k, n = k + 1 := ⟨n - 1, by omega⟩
        obtain ⟨n', rfl⟩ : ∃ k, n' = k + 1 := ⟨n' - 1, by omega⟩
        exact Or.inl ⟨V2, cz3, C3, S2, e2, h1.trans tt_c0, h2'.trans (tt_m0 (oM _ _) (m_bad a3.2.1)), Fl_cz (Fl_tr (V45_VK vk1) (SK_3 SK_4) a3) hK3 hcz3⟩
      · dsimp only at a1 a2
        have b1 := a4
        obtain ⟨o1, o2, o3, o4, o5, o6, o7, o8, o9⟩ := b1
        have hP2 := a3
        obtain ⟨⟨hq2, sq2, tk2, w12, ⟨pm2, z1, z2, z3⟩, s32, s52⟩, ⟨s132, s62⟩, hcz2, hC2, hM2, hW2⟩ := a3
        have ps := x_pushC (N := N) (h := h) (q := r0) (g := g) (V := V2) (B := B) (C := C2) (x := -nI (tc - 9999)) hcz2 (show K2 < 700 by omega)
        have em := m_emit (N := N) (h2 := h2) (m := m) (B1 := B1) (D := D) (H := H) (J := J) (L := L) (U := U) (Z := Z) (W := W) (S := S2) (e := e2) (x := tc - 10002) s52 hM2.1 (by omega)
        have h1 := fc _ _ _ _ x1 a1 (oX _ _ _) (by simp only [rg_A]) (fun _ _ => r_o6) ps
        have h2' := fm _ _ (oM _ _) a2 em
        have ok := Ok0_op (c := tc) q1le.1 vk1 SK_4 a4 tc1
        have b2' := ok
        obtain ⟨u1, u2, u3, u4, u5, u6, u7, u8, u9⟩ := b2'
        have nx := ih (i + 1) n n' _ _ _ _ _ _ _ _ (PSt_op hP2 tc1 tc2 (by omega)) (by omega) (by omega) (by omega) (by omega) (by omega) (by omega) (by omega) (by omega)
        rw [← h1, ← h2'] at nx
        exact LS0_0 ok nx
    rcases Classical.em (sgAt b len q 42) with hs | hs
    · have n40 : nxt b len q = nI 42 := of_eq_true (nxt_T hs)
      rw [n40] at mn my
      exact step 10006 42 (by omega) (by omega) hs ⟨rfl, rfl⟩ (fun Y Z T v x1 f oy ga o6 ps => tt_c1 (oX _ _ _) oy (by omega) (ia1 hs) x1 f ga o6 ps) (fun Y3 Y4 o3 f em => tt_m1 (oM _ _) (oM _ _) (oM _ _) o3 (m_good s5) mn my y4 yp4 f em)
    · rcases Classical.em (sgAt b len q 47) with hs' | hs'
      · have n40 : nxt b len q = nI 47 := of_eq_true (nxt_T hs')
        rw [n40] at mn my
        exact step 10007 47 (by omega) (by omega) hs' ⟨rfl, rfl⟩ (fun Y Z T v x1 f oy ga o6 ps => tt_c2 (oX _ _ _) oy (by omega) (ia2 hs) (ib1 hs') x1 f ga o6 ps) (fun Y3 Y4 o3 f em => tt_m2 (oM _ _) (oM _ _) (oM _ _) o3 (m_good s5) mn my y4 yp4 f em)
      · exact tt_stop hNN hT hT1 hP0 (by omega) hs hs'
theorem f_term {rc : Nat → Int32 → zH → Option (Int32 × zH)} {rm : Nat → zH → Option zH} (hNN : 2000 < N) (hT : TxtB B b len) (hT1 : TxtB B1 b len) (hdep : dep ≤ 4)
    (hf : ∀ (V : Nat → Int32) (cz : Int32) (C S : Nat → Int32) (e t : Nat → Nat) (q K : Nat), PSt b len V cz C S e t q K dep → K ≤ q → 2 * mPos t K ≤ 3 * q → hgt t K ≤ 2 * dep + 2 → LSt b len (fun V cz C => rset h r0 g V B cz C) (fun S e => mset h2 m S B1 D (dI e) H J L U Z W) V S e t q K dep (f_X7_takeFactor N rc r0 (nI dep) (rset h r0 g V B cz C)) (f_X9_factor N rm m (mset h2 m (S) B1 D (dI e) H J L U Z W))) (hP : PSt b len V cz C S e t q K dep) (hK : K ≤ q) (hm : 2 * mPos t K ≤ 3 * q) (hh : hgt t K + 1 ≤ 2 * dep + 2) : LSt b len (fun V cz C => rset h r0 g V B cz C) (fun S e => mset h2 m S B1 D (dI e) H J L U Z W) V S e t q K dep (f_X7_takeTerm N rc r0 (nI dep) (rset h r0 g V B cz C)) (f_X9_term N rm m (mset h2 m (S) B1 D (dI e) H J L U Z W)) := by
  have hl := hT.1
  have oM : ∀ (S E : Nat → Int32), O9h m (mset h2 m S B1 D E H J L U Z W) := fun S E _ _ => onO_ms
  rcases hf V cz C S e t q K hP hK hm (by omega) with ⟨V2, cz2, C2, S2, e2, a1, a2, a3⟩ | ⟨V2, cz2, C2, S2, e2, t2, q2, K2, a1, a2, a3, a4⟩
  · dsimp only at a1 a2
    obtain ⟨N, rfl⟩ : ∃ k, N = k + 1 := ⟨N - 1, by omega⟩
    refine Or.inl ⟨V2, cz2, C2, S2, e2, ?_, ?_, a3⟩
    · unfold f_X7_takeTerm
      rw [r_o7, a1, Option.bind_some]
      exact tt_c0
    · unfold f_X9_term
      rw [onO_ms, a2, Option.bind_some]
      exact tt_m0 (oM _ _) (m_bad a3.2.1)
  · dsimp only at a1 a2
    have b1 := a4
    obtain ⟨o1, o2, o3, o4, o5, o6, o7, o8, o9⟩ := b1
    have hq2 := a3.1.1
    have lp := tt_loop hNN hT hT1 hdep hf len 0 N N _ _ _ _ _ _ _ _ a3 (by omega) (by omega) (by omega) (by omega) (by omega) (by omega) (by omega) (by omega)
    have h1 : f_X7_takeTerm N rc r0 (nI dep) (rset h r0 g V B cz C) = f_X7_takeTerm_l8 N rc r0 (nI dep) N (nI 1) (nI 0) (rset h r0 g V2 B cz2 C2) := by
      unfold f_X7_takeTerm
      rw [r_o7, a1, Option.bind_some]
      rfl
    have h2' : f_X9_term N rm m (mset h2 m (S) B1 D (dI e) H J L U Z W) = f_X9_term_l4 N rm m N (mset h2 m (S2) B1 D (dI e2) H J L U Z W) := by
      unfold f_X9_term
      rw [onO_ms, a2, Option.bind_some]
    rw [h1, h2']
    exact LS1_0 a4 lp
theorem ts_stop {rc : Nat → Int32 → zH → Option (Int32 × zH)} {rm : Nat → zH → Option zH} {i n n' : Nat} (hNN : 2000 < N) (hT : TxtB B b len) (hT1 : TxtB B1 b len) (hP : PSt b len V cz C S e t q K dep) (hi : i < 700) (hs1 : ¬ sgAt b len q 43) (hs2 : ¬ sgAt b len q 45) : LS0 b len (fun V cz C => rset h r0 g V B cz C) (fun S e => mset h2 m S B1 D (dI e) H J L U Z W) V S e t q K dep (f_X7_takeSum_l8 N rc r0 (nI dep) (n + 1) (nI 1) (nI i) (rset h r0 g V B cz C)) (f_X9_sum_l4 N rm m (n' + 1) (mset h2 m (S) B1 D (dI e) H J L U Z W)) := by
  obtain ⟨⟨hq, sq, tk, v12, ⟨pm, p1, p2, p3⟩, s3, s5⟩, ⟨s13, s6⟩, hcz, hC, hM, hW⟩ := hP
  have mn := m_next (N := N) (h := h2) (m := m) (B := B1) (D := D) (E := dI e) (H := H) (J := J) (L := L) (U := U) (Z := Z) (W := W) (S := S) (by omega) hT1 s3 p3 p1
  rw [p2] at mn
  have g3 : upd S 4 (nI q) 3 = nI len := by rw [upS_ne (by omega)]; exact s3
  have my := m_next (N := N) (h := h2) (m := m) (B := B1) (D := D) (E := dI e) (H := H) (J := J) (L := L) (U := U) (Z := Z) (W := W) (S := upd S 4 (nI q)) (p := q) (by omega) hT1 g3 (upS_eq _ _ _) hq
  rw [sq, upS_upS] at my
  obtain ⟨ia1, ia2⟩ := x_isSign (N := N) (h := h) (q := r0) (g := g) (V := V) (B := B) (cz := cz) (C := C) (p := q) (c := 43) hq ⟨rfl, rfl⟩ (by omega) hT tk
  rw [sq] at ia1 ia2
  obtain ⟨ib1, ib2⟩ := x_isSign (N := N) (h := h) (q := r0) (g := g) (V := V) (B := B) (cz := cz) (C := C) (p := q) (c := 45) hq ⟨rfl, rfl⟩ (by omega) hT tk
  rw [sq] at ib1 ib2
  refine Or.inr ⟨V, cz, C, upd S 4 (nI q), e, t, q, K, ?_, ?_, ⟨⟨hq, sq, tk, v12, ⟨q, hq, sq, upS_eq _ _ _⟩, g3, by rw [upS_ne (by omega)]; exact s5⟩, ⟨by rw [upS_ne (by omega)]; exact s13, by rw [upS_ne (by omega)]; exact s6⟩, hcz, hC, hM, hW⟩, Ok0_S4⟩
  · exact ts_cn (fun _ _ => r_o7) hi (ia2 hs1) (ib2 hs2)
  · exact ts_mn (fun _ _ => onO_ms) (fun _ _ => onO_ms) (m_good s5) mn my (of_eq_false (nxt_F hT1 (by omega) hs1)) (of_eq_false (nxt_F hT1 (by omega) hs2))
theorem ts_loop {rc : Nat → Int32 → zH → Option (Int32 × zH)} {rm : Nat → zH → Option zH} (hNN : 2000 < N) (hT : TxtB B b len) (hT1 : TxtB B1 b len) (hdep : dep ≤ 4)
    (hf : ∀ (V : Nat → Int32) (cz : Int32) (C S : Nat → Int32) (e t : Nat → Nat) (q K : Nat), PSt b len V cz C S e t q K dep → K ≤ q → 2 * mPos t K ≤ 3 * q → hgt t K ≤ 2 * dep + 1 → LSt b len (fun V cz C => rset h r0 g V B cz C) (fun S e => mset h2 m S B1 D (dI e) H J L U Z W) V S e t q K dep (f_X7_takeTerm N rc r0 (nI dep) (rset h r0 g V B cz C)) (f_X9_term N rm m (mset h2 m (S) B1 D (dI e) H J L U Z W))) :
    ∀ (w i n n' : Nat) (V : Nat → Int32) (cz : Int32) (C S : Nat → Int32) (e t : Nat → Nat) (q K : Nat), PSt b len V cz C S e t q K dep → K ≤ q → 2 * mPos t K ≤ 3 * q + 1 → 1 ≤ hgt t K → hgt t K ≤ 2 * dep + 1 → i < q → len ≤ q + w → w + 1 < n → w + 1 < n' → LS0 b len (fun V cz C => rset h r0 g V B cz C) (fun S e => mset h2 m S B1 D (dI e) H J L U Z W) V S e t q K dep (f_X7_takeSum_l8 N rc r0 (nI dep) n (nI 1) (nI i) (rset h r0 g V B cz C)) (f_X9_sum_l4 N rm m n' (mset h2 m (S) B1 D (dI e) H J L U Z W)) := by
  have hl := hT.1
  intro w
  induction w with
  | zero =>
    intro i n n' V cz C S e t q K hP hK hm hh1 hh2 hi hw hn hn'
    obtain ⟨n, rfl⟩ : ∃ k, n = k + 1 := ⟨n - 1, by omega⟩
    obtain ⟨n', rfl⟩ : ∃ k, n' = k + 1 := ⟨n' - 1, by omega⟩
    obtain ⟨⟨hq, sq, tk, v12, ⟨pm, p1, p2, p3⟩, s3, s5⟩, ⟨s13, s6⟩, hcz, hC, hM, hW⟩ := hP
    exact ts_stop hNN hT hT1 ⟨⟨hq, sq, tk, v12, ⟨pm, p1, p2, p3⟩, s3, s5⟩, ⟨s13, s6⟩, hcz, hC, hM, hW⟩ (by omega) (fun hs => by have := hs.1; omega) (fun hs => by have := hs.1; omega)
  | succ w ih =>
    intro i n n' V cz C S e t q K hP hK hm hh1 hh2 hi hw hn hn'
    obtain ⟨n, rfl⟩ : ∃ k, n = k + 1 := ⟨n - 1, by omega⟩
    obtain ⟨n', rfl⟩ : ∃ k, n' = k + 1 := ⟨n' - 1, by omega⟩
    have hP0 := hP
    obtain ⟨⟨hq, sq, tk, v12, ⟨pm, p1, p2, p3⟩, s3, s5⟩, ⟨s13, s6⟩, hcz, hC, hM, hW⟩ := hP
    have mn := m_next (N := N) (h := h2) (m := m) (B := B1) (D := D) (E := dI e) (H := H) (J := J) (L := L) (U := U) (Z := Z) (W := W) (S := S) (by omega) hT1 s3 p3 p1
    rw [p2] at mn
    have g3 : upd S 4 (nI q) 3 = nI len := by rw [upS_ne (by omega)]; exact s3
    have my := m_next (N := N) (h := h2) (m := m) (B := B1) (D := D) (E := dI e) (H := H) (J := J) (L := L) (U := U) (Z := Z) (W := W) (S := upd S 4 (nI q)) (p := q) (by omega) hT1 g3 (upS_eq _ _ _) hq
    rw [sq, upS_upS] at my
    have tk' := tk
    obtain ⟨t3, t5, t4, t6, t7⟩ := tk'
    rw [sq] at t5 t4 t6 t7
    obtain ⟨ia1, ia2⟩ := x_isSign (N := N) (h := h) (q := r0) (g := g) (V := V) (B := B) (cz := cz) (C := C) (p := q) (c := 43) hq ⟨rfl, rfl⟩ (by omega) hT tk
    rw [sq] at ia1 ia2
    obtain ⟨ib1, ib2⟩ := x_isSign (N := N) (h := h) (q := r0) (g := g) (V := V) (B := B) (cz := cz) (C := C) (p := q) (c := 45) hq ⟨rfl, rfl⟩ (by omega) hT tk
    rw [sq] at ib1 ib2
    have oX : ∀ V cz C, O7h r0 (rset h r0 g V B cz C) := fun V cz C _ _ => r_o7
    have oM : ∀ (S E : Nat → Int32), O9h m (mset h2 m S B1 D E H J L U Z W) := fun S E _ _ => onO_ms
    have y4 : gI (mset h2 m (upd S 4 (nI q)) B1 D (dI e) H J L U Z W) m 9 4 = some (nI q) := by simp only [gI_ms, upS_eq]
    have yp4 : pF (mset h2 m (upd S 4 (nI q)) B1 D (dI e) H J L U Z W) m 9 4 (.int (nI q + nI 1)) = some (mset h2 m (upd S 4 (nI (q + 1))) B1 D (dI e) H J L U Z W) := by rw [nadd, pF_ms4, upS_upS]
    have step : ∀ (tc c : Nat), 10004 ≤ tc → tc ≤ 10007 → sgAt b len q c → (isDg c = false ∧ isLt c = false) →
        (∀ (Y Z T : zH) (v : Int32), f_X7_advance N r0 (rset h r0 g V B cz C) = some Y → f_X7_takeTerm N rc r0 (nI dep) Y = some (v, Z) → O7h r0 Y → gA Z r0 7 10 = some (r0 + 2) → (∀ (β : Type) (G : Option β), onO 6 (r0 + 2) Z G = G) → f_X6_push N (r0 + 2) (-nI (tc - 9999)) Z = some T → f_X7_takeSum_l8 N rc r0 (nI dep) (n + 1) (nI 1) (nI i) (rset h r0 g V B cz C) = f_X7_takeSum_l8 N rc r0 (nI dep) n v (nI (i + 1)) T) →
        (∀ (Y3 Y4 : zH), O9h m Y3 → f_X9_term N rm m (mset h2 m (upd S 4 (nI (q + 1))) B1 D (dI e) H J L U Z W) = some Y3 → f_X9_emit N m (nI (tc - 10002)) Y3 = some Y4 → f_X9_sum_l4 N rm m (n' + 1) (mset h2 m (S) B1 D (dI e) H J L U Z W) = f_X9_sum_l4 N rm m n' Y4) →
        LS0 b len (fun V cz C => rset h r0 g V B cz C) (fun S e => mset h2 m S B1 D (dI e) H J L U Z W) V S e t q K dep (f_X7_takeSum_l8 N rc r0 (nI dep) (n + 1) (nI 1) (nI i) (rset h r0 g V B cz C)) (f_X9_sum_l4 N rm m (n' + 1) (mset h2 m (S) B1 D (dI e) H J L U Z W)) := by
      intro tc c tc1 tc2 hs hc fc fm
      have hE := tkE_sg hs hc
      have hlt := hs.1
      rw [hE] at t6
      obtain ⟨V', x1, x2, x3⟩ := x_advance (N := N) (h := h) (q := r0) (g := g) (V := V) (B := B) (cz := cz) (C := C) (p := q + 1) (by omega) hT t3 t6 (by omega)
      have q1le := skp_le (b := b) (show q + 1 ≤ len by omega)
      have vk1 : V45 V V' := fun k k4 k5 k6 k7 _ => x3 k k4 k5 k6 k7
      have hA : At b len V' (upd S 4 (nI (q + 1))) (skp b len (q + 1)) := At_mk (by omega) x2 (by rw [x3 12 (by omega) (by omega) (by omega) (by omega)]; exact v12) (upS_eq _ _ _) (by rw [upS_ne (by omega)]; exact s3) (by rw [upS_ne (by omega)]; exact s5)
      have ls := hf V' cz C (upd S 4 (nI (q + 1))) e t (skp b len (q + 1)) K ⟨hA, ⟨by rw [upS_ne (by omega)]; exact s13, by rw [upS_ne (by omega)]; exact s6⟩, hcz, hC, hM, hW⟩ (by omega) (by omega) hh2
      rcases ls with ⟨V2, cz2, C2, S2, e2, a1, a2, a3⟩ | ⟨V2, cz2, C2, S2, e2, t2, q2, K2, a1, a2, a3, a4⟩
      · dsimp only at a1 a2
        obtain ⟨K2, hK2, hcz2⟩ := a3.2.2.2.2.2
        obtain ⟨cz3, C3, K3, ps, hcz3, hK3⟩ := x_pushF (N := N) (h := h) (q := r0) (g := g) (V := V2) (B := B) (C := C2) (x := -nI (tc - 9999)) hcz2 hK2
        have h1 := fc _ _ _ _ x1 a1 (oX _ _ _) (by simp only [rg_A]) (fun _ _ => r_o6) ps
        have h2' := fm _ _ (oM _ _) a2 (m_emitB (N := N) (h2 := h2) (m := m) (B1 := B1) (D := D) (H := H) (J := J) (L := L) (U := U) (Z := Z) (W := W) a3.2.1)
        obtain ⟨n, rfl⟩ : ∃ k, n = k + 1 := ⟨n - 1, by omega⟩
        obtain ⟨n', rfl⟩ : ∃ k, n' = k + 1 := ⟨n' - 1, by omega⟩
        exact Or.inl ⟨V2, cz3, C3, S2, e2, h1.trans ts_c0, h2'.trans (ts_m0 (oM _ _) (m_bad a3.2.1)), Fl_cz (Fl_tr (V45_VK vk1) (SK_3 SK_4) a3) hK3 hcz3⟩
      · dsimp only at a1 a2
        have b1 := a4
        obtain ⟨o1, o2, o3, o4, o5, o6, o7, o8, o9⟩ := b1
        have hP2 := a3
        obtain ⟨⟨hq2, sq2, tk2, w12, ⟨pm2, z1, z2, z3⟩, s32, s52⟩, ⟨s132, s62⟩, hcz2, hC2, hM2, hW2⟩ := a3
        have ps := x_pushC (N := N) (h := h) (q := r0) (g := g) (V := V2) (B := B) (C := C2) (x := -nI (tc - 9999)) hcz2 (show K2 < 700 by omega)
        have em := m_emit (N := N) (h2 := h2) (m := m) (B1 := B1) (D := D) (H := H) (J := J) (L := L) (U := U) (Z := Z) (W := W) (S := S2) (e := e2) (x := tc - 10002) s52 hM2.1 (by omega)
        have h1 := fc _ _ _ _ x1 a1 (oX _ _ _) (by simp only [rg_A]) (fun _ _ => r_o6) ps
        have h2' := fm _ _ (oM _ _) a2 em
        have ok := Ok0_op (c := tc) q1le.1 vk1 SK_4 a4 tc1
        have b2' := ok
        obtain ⟨u1, u2, u3, u4, u5, u6, u7, u8, u9⟩ := b2'
        have nx := ih (i + 1) n n' _ _ _ _ _ _ _ _ (PSt_op hP2 tc1 tc2 (by omega)) (by omega) (by omega) (by omega) (by omega) (by omega) (by omega) (by omega) (by omega)
        rw [← h1, ← h2'] at nx
        exact LS0_0 ok nx
    rcases Classical.em (sgAt b len q 43) with hs | hs
    · have n40 : nxt b len q = nI 43 := of_eq_true (nxt_T hs)
      rw [n40] at mn my
      exact step 10004 43 (by omega) (by omega) hs ⟨rfl, rfl⟩ (fun Y Z T v x1 f oy ga o6 ps => ts_c1 (oX _ _ _) oy (by omega) (ia1 hs) x1 f ga o6 ps) (fun Y3 Y4 o3 f em => ts_m1 (oM _ _) (oM _ _) (oM _ _) o3 (m_good s5) mn my y4 yp4 f em)
    · rcases Classical.em (sgAt b len q 45) with hs' | hs'
      · have n40 : nxt b len q = nI 45 := of_eq_true (nxt_T hs')
        rw [n40] at mn my
        exact step 10005 45 (by omega) (by omega) hs' ⟨rfl, rfl⟩ (fun Y Z T v x1 f oy ga o6 ps => ts_c2 (oX _ _ _) oy (by omega) (ia2 hs) (ib1 hs') x1 f ga o6 ps) (fun Y3 Y4 o3 f em => ts_m2 (oM _ _) (oM _ _) (oM _ _) o3 (m_good s5) mn my y4 yp4 f em)
      · exact ts_stop hNN hT hT1 hP0 (by omega) hs hs'
theorem f_sum {rc : Nat → Int32 → zH → Option (Int32 × zH)} {rm : Nat → zH → Option zH} (hNN : 2000 < N) (hT : TxtB B b len) (hT1 : TxtB B1 b len) (hdep : dep ≤ 4)
    (hf : ∀ (V : Nat → Int32) (cz : Int32) (C S : Nat → Int32) (e t : Nat → Nat) (q K : Nat), PSt b len V cz C S e t q K dep → K ≤ q → 2 * mPos t K ≤ 3 * q → hgt t K ≤ 2 * dep + 1 → LSt b len (fun V cz C => rset h r0 g V B cz C) (fun S e => mset h2 m S B1 D (dI e) H J L U Z W) V S e t q K dep (f_X7_takeTerm N rc r0 (nI dep) (rset h r0 g V B cz C)) (f_X9_term N rm m (mset h2 m (S) B1 D (dI e) H J L U Z W))) (hP : PSt b len V cz C S e t q K dep) (hK : K ≤ q) (hm : 2 * mPos t K ≤ 3 * q) (hh : hgt t K + 1 ≤ 2 * dep + 1) : LSt b len (fun V cz C => rset h r0 g V B cz C) (fun S e => mset h2 m S B1 D (dI e) H J L U Z W) V S e t q K dep (f_X7_takeSum N rc r0 (nI dep) (rset h r0 g V B cz C)) (f_X9_sum N rm m (mset h2 m (S) B1 D (dI e) H J L U Z W)) := by
  have hl := hT.1
  have oM : ∀ (S E : Nat → Int32), O9h m (mset h2 m S B1 D E H J L U Z W) := fun S E _ _ => onO_ms
  rcases hf V cz C S e t q K hP hK hm (by omega) with ⟨V2, cz2, C2, S2, e2, a1, a2, a3⟩ | ⟨V2, cz2, C2, S2, e2, t2, q2, K2, a1, a2, a3, a4⟩
  · dsimp only at a1 a2
    obtain ⟨N, rfl⟩ : ∃ k, N = k + 1 := ⟨N - 1, by omega⟩
    refine Or.inl ⟨V2, cz2, C2, S2, e2, ?_, ?_, a3⟩
    · unfold f_X7_takeSum
      rw [r_o7, a1, Option.bind_some]
      exact ts_c0
    · unfold f_X9_sum
      rw [onO_ms, a2, Option.bind_some]
      exact ts_m0 (oM _ _) (m_bad a3.2.1)
  · dsimp only at a1 a2
    have b1 := a4
    obtain ⟨o1, o2, o3, o4, o5, o6, o7, o8, o9⟩ := b1
    have hq2 := a3.1.1
    have lp := ts_loop hNN hT hT1 hdep hf len 0 N N _ _ _ _ _ _ _ _ a3 (by omega) (by omega) (by omega) (by omega) (by omega) (by omega) (by omega) (by omega)
    have h1 : f_X7_takeSum N rc r0 (nI dep) (rset h r0 g V B cz C) = f_X7_takeSum_l8 N rc r0 (nI dep) N (nI 1) (nI 0) (rset h r0 g V2 B cz2 C2) := by
      unfold f_X7_takeSum
      rw [r_o7, a1, Option.bind_some]
      rfl
    have h2' : f_X9_sum N rm m (mset h2 m (S) B1 D (dI e) H J L U Z W) = f_X9_sum_l4 N rm m N (mset h2 m (S2) B1 D (dI e2) H J L U Z W) := by
      unfold f_X9_sum
      rw [onO_ms, a2, Option.bind_some]
    rw [h1, h2']
    exact LS1_0 a4 lp
/-- a sum after an error -/
theorem m_sumB {rm : Nat → zH → Option zH} {E : Nat → Int32} (hNN : 0 < N) (h5 : S 5 ≠ nI 0) : f_X9_sum N rm m (mset h2 m S B1 D E H J L U Z W) = some (mset h2 m S B1 D E H J L U Z W) := by
  obtain ⟨N, rfl⟩ : ∃ k, N = k + 1 := ⟨N - 1, by omega⟩
  have oM : O9h m (mset h2 m S B1 D E H J L U Z W) := fun _ _ => onO_ms
  have f0 : f_X9_factor (N + 1) rm m (mset h2 m S B1 D E H J L U Z W) = some (mset h2 m S B1 D E H J L U Z W) := by
    unfold f_X9_factor
    rw [onO_ms, m_bad h5, Option.bind_some, if_pos (show (nI 0, _).1 = 0 from rfl)]
  have t0 : f_X9_term (N + 1) rm m (mset h2 m S B1 D E H J L U Z W) = some (mset h2 m S B1 D E H J L U Z W) := by
    unfold f_X9_term
    rw [onO_ms, f0, Option.bind_some]
    exact tt_m0 oM (m_bad h5)
  unfold f_X9_sum
  rw [onO_ms, t0, Option.bind_some]
  exact ts_m0 oM (m_bad h5)
theorem f_sumN (hNN : 2000 < N) (hT : TxtB B b len) (hT1 : TxtB B1 b len) : ∀ (n dep : Nat), dep ≤ 4 → 6 ≤ n + dep → ∀ (V : Nat → Int32) (cz : Int32) (C S : Nat → Int32) (e t : Nat → Nat) (q K : Nat), PSt b len V cz C S e t q K dep → K ≤ q → 2 * mPos t K ≤ 3 * q → hgt t K ≤ 2 * dep → LSt b len (fun V cz C => rset h r0 g V B cz C) (fun S e => mset h2 m S B1 D (dI e) H J L U Z W) V S e t q K dep (f_X7_takeSumN N n r0 (nI dep) (rset h r0 g V B cz C)) (f_X9_sumN N n m (mset h2 m (S) B1 D (dI e) H J L U Z W)) := by
  intro n
  induction n with
  | zero => intro dep hd hn; omega
  | succ n ih =>
    intro dep hd hn V cz C S e t q K hP hK hm hh
    obtain ⟨n0, hn0⟩ : ∃ k, n = k + 1 := ⟨n - 1, by omega⟩
    have hrb : ∀ (S E : Nat → Int32), S 5 ≠ nI 0 → f_X9_sumN N n m (mset h2 m S B1 D E H J L U Z W) = some (mset h2 m S B1 D E H J L U Z W) := fun S E h5 => by
      rw [hn0]
      exact m_sumB (by omega) h5
    have hrs : dep < 4 → ∀ (V : Nat → Int32) (cz : Int32) (C S : Nat → Int32) (e t : Nat → Nat) (q K : Nat), PSt b len V cz C S e t q K (dep + 1) → K ≤ q → 2 * mPos t K ≤ 3 * q → hgt t K ≤ 2 * (dep + 1) → LSt b len (fun V cz C => rset h r0 g V B cz C) (fun S e => mset h2 m S B1 D (dI e) H J L U Z W) V S e t q K (dep + 1) (f_X7_takeSumN N n r0 (nI (dep + 1)) (rset h r0 g V B cz C)) (f_X9_sumN N n m (mset h2 m (S) B1 D (dI e) H J L U Z W)) := fun h4 => ih (dep + 1) (by omega) (by omega)
    have hfac : ∀ (V : Nat → Int32) (cz : Int32) (C S : Nat → Int32) (e t : Nat → Nat) (q K : Nat), PSt b len V cz C S e t q K dep → K ≤ q → 2 * mPos t K ≤ 3 * q → hgt t K ≤ 2 * dep + 2 → LSt b len (fun V cz C => rset h r0 g V B cz C) (fun S e => mset h2 m S B1 D (dI e) H J L U Z W) V S e t q K dep (f_X7_takeFactor N (f_X7_takeSumN N n) r0 (nI dep) (rset h r0 g V B cz C)) (f_X9_factor N (f_X9_sumN N n) m (mset h2 m (S) B1 D (dI e) H J L U Z W)) := fun V cz C S e t q K hP hK hm hh => f_factor hNN hT hT1 hrb hrs hP hd hK hm hh
    have hter : ∀ (V : Nat → Int32) (cz : Int32) (C S : Nat → Int32) (e t : Nat → Nat) (q K : Nat), PSt b len V cz C S e t q K dep → K ≤ q → 2 * mPos t K ≤ 3 * q → hgt t K ≤ 2 * dep + 1 → LSt b len (fun V cz C => rset h r0 g V B cz C) (fun S e => mset h2 m S B1 D (dI e) H J L U Z W) V S e t q K dep (f_X7_takeTerm N (f_X7_takeSumN N n) r0 (nI dep) (rset h r0 g V B cz C)) (f_X9_term N (f_X9_sumN N n) m (mset h2 m (S) B1 D (dI e) H J L U Z W)) := fun V cz C S e t q K hP hK hm hh => f_term hNN hT hT1 hd hfac hP hK hm (by omega)
    exact f_sum hNN hT hT1 hd hter hP hK hm (by omega)
end M99991

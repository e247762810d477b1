/-! ===== the law: one call ===== -/
theorem bind_of {α β : Type} {x : Option α} {a : α} {f : α → Option β} {w : Option β} (hx : x = some a) (hf : f a = w) : x.bind f = w := by
  rw [hx]
  exact hf
theorem zjn_of {α β : Type} {J : α} {B : α → Option β} {w : Option β} (h : B J = w) : zjn J B = w := h
def OutAt (b0 : Nat) (h : zH) : Prop := ∃ f : Nat → Int64, hM h (b0 + 413) = some (.inl (1, 1, .inr (.inl f)))
def InvL (b0 M0 : Nat) (h : zH) (j : Nat) : Prop := (∃ (s : St) (th : Int32), WC b0 h s ∧ WMv b0 h th s) ∧ OutAt b0 h ∧ hS h ≤ b0 + 414 + 3 * j ∧ hN h ≤ M0 + 720 * j
section M9998
variable {b0 N M0 j L : Nat} {h : zH} {s : St} {th : Int32} {xs : Nat → Int32}
theorem WC_x {h h' : zH} {s : St} (hW : WC b0 h s) (hS1 : hS h ≤ hS h') (hf : ∀ x, x < b0 + 395 ∨ b0 + 414 ≤ x → hM h' x = hM h x) : WC b0 h' s := WC_sim hW hS1 (fun x hx _ => Or.inl (hf x hx))
theorem o9 {β : Type} {F : Option β} {h : zH} (hM : WMv b0 h th s) : onO 9 (b0 + 395) h F = F := by
  obtain ⟨d, K, t, ⟨q, hd, hK, ht⟩, ea, z, B⟩ := s
  obtain ⟨S, B1, E, H, J, L, U, Z, W, e0, -⟩ := hM
  rw [← e0]
  exact onO_ms
theorem thr9 {h : zH} (hM : WMv b0 h th s) : f_X9_thrown N (b0 + 395) h = some (th, h) := by
  obtain ⟨d, K, t, ⟨q, hd, hK, ht⟩, ea, z, B⟩ := s
  obtain ⟨S, B1, E, H, J, L, U, Z, W, e0, e1, -⟩ := hM
  have k : f_X9_thrown N (b0 + 395) (mset h (b0 + 395) S B1 (dI d) E H J L U Z W) = some (S 0, mset h (b0 + 395) S B1 (dI d) E H J L U Z W) := by
    simp only [f_X9_thrown, gI_ms, Option.bind_some]
  rw [e0, e1] at k
  exact k
def PairW (b0 : Nat) (F : zH → Option ((Int32 ⊕ Nat) × zH)) (G : zH → Option (Int32 × zH)) (code : Nat → Option Nat) (h : zH) (s : St) : Prop :=
  ∀ (h2 : zH) (th : Int32), WMv b0 h2 th s → ∃ (r : Int32 ⊕ Nat) (h1 : zH) (s' : St), F h = some (r, h1) ∧ WC b0 h1 s' ∧ Keep b0 h h1 ∧ ∃ (v : Int32) (h3 : zH) (th' : Int32), G h2 = some (v, h3) ∧ WMv b0 h3 th' s' ∧ KeepM b0 h2 h3 ∧ ((∃ w, r = .inl w ∧ th' = nI 0 ∧ v = w) ∨ ∃ k c, r = .inr k ∧ code k = some c ∧ 0 < c ∧ c < 4 ∧ th' = nI c)
theorem PairT_W {F : zH → Option ((Int32 ⊕ Nat) × zH)} {G : zH → Option (Int32 × zH)} {code : Nat → Option Nat} (hP : PairT b0 F G code h s) : PairW b0 F G code h s := fun h2 th hM => by
  obtain ⟨r, h1, s', f1, f2, f3, f4⟩ := hP
  exact ⟨r, h1, s', f1, f2, f3, f4 h2 th hM⟩
theorem L_TW {F : zH → Option ((Int32 ⊕ Nat) × zH)} {G : zH → Option (Int32 × zH)} {code : Nat → Option Nat} {st : Int32 → Int64} {CK : Nat → zH → Option (Int32 × zH)} {fL : Option (Int32 × zH)} (hW : WC b0 h s) (hM1 : WMv b0 h th s) (ho : OutAt b0 h) (hs1 : hS h ≤ b0 + 414 + 3 * j) (hn1 : hN h ≤ M0 + 720 * j) (hP : PairW b0 F G code h s) (hfL : fL = (onO 8 b0 h (F h)).bind fun y1 => zth y1.1 (fun x2 => (stJ y1.2 (b0 + 413) (0 : Int32) (st x2)).bind fun h4 => some ((0 : Int32), h4)) (fun k3 => CK k3 y1.2)) (hCK : ∀ k c hh, code k = some c → CK k hh = some (nI c, hh)) : ∃ (kk : Int32) (hA : zH) (b : Int32) (hB : zH), fL = some (kk, hA) ∧ onO 9 (b0 + 395) hA (G hA) = some (b, hB) ∧ onO 9 (b0 + 395) hB (f_X9_thrown N (b0 + 395) hB) = some (kk, hB) ∧ (kk = nI 0 → ldJ hB (b0 + 413) (0 : Int32) = some (st b)) ∧ InvL b0 M0 hB (j + 1) := by
  obtain ⟨r, h1, s0, f1, -, f3, -⟩ := hP h th hM1
  obtain ⟨fo, ho'⟩ := ho
  have ho1 : hM h1 (b0 + 413) = some (.inl (1, 1, .inr (.inl fo))) := (f3.1 _ (by omega) (by omega)).trans ho'
  have hM2 : WMv b0 h1 th s := WMv_move hM1 (fun x a b => f3.1 x a (by omega))
  rw [xo8 hW, f1] at hfL
  cases r with
  | inl w =>
    have e1 : stJ h1 (b0 + 413) (0 : Int32) (st w) = some (hPut h1 (b0 + 413) (.inl (1, 1, .inr (.inl (vp_updL fo 0 (st w)))))) := stJ_of' (k := 0) ho1 (by omega) (by omega)
    have hM3 : WMv b0 (hPut h1 (b0 + 413) (.inl (1, 1, .inr (.inl (vp_updL fo 0 (st w)))))) th s := WMv_move hM2 (fun x a b => by rw [hM_put, if_neg (by omega)])
    obtain ⟨r', h1', s', fe, f2, -, v, h3, th', g1, g2, g3, g4⟩ := hP _ th hM3
    have fe' := f1.symm.trans fe
    cases fe'
    have hc : th' = nI 0 ∧ v = w := by
      rcases g4 with ⟨w', e, e', e''⟩ | ⟨k, c, e, -⟩
      · cases e
        exact ⟨e', e''⟩
      · cases e
    obtain ⟨rfl, rfl⟩ := hc
    have ho3 : hM h3 (b0 + 413) = some (.inl (1, 1, .inr (.inl (vp_updL fo 0 (st v))))) := (g3.1 _ (by omega)).trans (by rw [hM_put, if_pos rfl])
    refine ⟨nI 0, _, v, h3, ?_, (o9 hM3).trans g1, (o9 g2).trans (thr9 g2), fun _ => ?_, ⟨⟨s', nI 0, WC_x f2 ?_ ?_, g2⟩, ⟨_, ho3⟩, ?_, ?_⟩⟩
    · rw [hfL]
      show ((stJ h1 (b0 + 413) (0 : Int32) (st v)).bind fun h4 => some ((0 : Int32), h4)) = _
      rw [e1]
      rfl
    · have := ldJ_of' (k := 0) ho3 (by omega) (by omega)
      rw [updL_eq] at this
      exact this
    · rw [g3.2.1]
      exact Nat.le_refl _
    · intro x hx
      rw [g3.1 x (by omega), hM_put, if_neg (by omega)]
    · have e9 : hS (hPut h1 (b0 + 413) (.inl (1, 1, .inr (.inl (vp_updL fo 0 (st v)))))) = hS h1 := rfl
      have := f3.2.2.1
      rw [g3.2.1, e9]
      omega
    · have e9 : hN (hPut h1 (b0 + 413) (.inl (1, 1, .inr (.inl (vp_updL fo 0 (st v)))))) = hN h1 := rfl
      rw [g3.2.2, e9]
      exact Nat.le_trans f3.2.2.2.2 (by rw [Nat.mul_succ, ← Nat.add_assoc]; exact Nat.add_le_add_right hn1 720)
  | inr k =>
    obtain ⟨r', h1', s', fe, f2, -, v, h3, th', g1, g2, g3, g4⟩ := hP _ th hM2
    have fe' := f1.symm.trans fe
    cases fe'
    have hc : ∃ c, code k = some c ∧ 0 < c ∧ c < 4 ∧ th' = nI c := by
      rcases g4 with ⟨w', e, -⟩ | ⟨k', c, e, e', e2, e3, e4⟩
      · cases e
      · cases e
        exact ⟨c, e', e2, e3, e4⟩
    obtain ⟨c, c1, c2, c3, rfl⟩ := hc
    refine ⟨nI c, h1, v, h3, ?_, (o9 hM2).trans g1, (o9 g2).trans (thr9 g2), fun h9 => ?_, ⟨⟨s', nI c, WC_x f2 ?_ ?_, g2⟩, ⟨fo, (g3.1 _ (by omega)).trans ho1⟩, ?_, ?_⟩⟩
    · rw [hfL]
      show CK k h1 = _
      exact hCK k c h1 c1
    · rw [neq (by omega) (by omega)] at h9
      omega
    · rw [g3.2.1]
      exact Nat.le_refl _
    · intro x hx
      exact g3.1 x (by omega)
    · have := f3.2.2.1
      rw [g3.2.1]
      omega
    · rw [g3.2.2]
      exact Nat.le_trans f3.2.2.2.2 (by rw [Nat.mul_succ, ← Nat.add_assoc]; exact Nat.add_le_add_right hn1 720)
theorem L_T {F : zH → Option ((Int32 ⊕ Nat) × zH)} {G : zH → Option (Int32 × zH)} {code : Nat → Option Nat} {st : Int32 → Int64} {CK : Nat → zH → Option (Int32 × zH)} {fL : Option (Int32 × zH)} (hW : WC b0 h s) (hM1 : WMv b0 h th s) (ho : OutAt b0 h) (hs1 : hS h ≤ b0 + 414 + 3 * j) (hn1 : hN h ≤ M0 + 720 * j) (hP : PairT b0 F G code h s) (hfL : fL = (onO 8 b0 h (F h)).bind fun y1 => zth y1.1 (fun x2 => (stJ y1.2 (b0 + 413) (0 : Int32) (st x2)).bind fun h4 => some ((0 : Int32), h4)) (fun k3 => CK k3 y1.2)) (hCK : ∀ k c hh, code k = some c → CK k hh = some (nI c, hh)) : ∃ (kk : Int32) (hA : zH) (b : Int32) (hB : zH), fL = some (kk, hA) ∧ onO 9 (b0 + 395) hA (G hA) = some (b, hB) ∧ onO 9 (b0 + 395) hB (f_X9_thrown N (b0 + 395) hB) = some (kk, hB) ∧ (kk = nI 0 → ldJ hB (b0 + 413) (0 : Int32) = some (st b)) ∧ InvL b0 M0 hB (j + 1) := by
  exact L_TW hW hM1 ho hs1 hn1 (PairT_W hP) hfL hCK
theorem L_N {F G : zH → Option (Int32 × zH)} (hW : WC b0 h s) (hM1 : WMv b0 h th s) (ho : OutAt b0 h) (hs1 : hS h ≤ b0 + 414 + 3 * j) (hn1 : hN h ≤ M0 + 720 * j) (hP : PairN b0 F G h s) : ∃ (r : Int32) (hA hB : zH), onO 8 b0 h (F h) = some (r, hA) ∧ onO 9 (b0 + 395) hA (G hA) = some (r, hB) ∧ InvL b0 M0 hB (j + 1) := by
  obtain ⟨r, h1, s', f1, f2, f3, f4⟩ := hP
  obtain ⟨fo, ho'⟩ := ho
  have ho1 : hM h1 (b0 + 413) = some (.inl (1, 1, .inr (.inl fo))) := (f3.1 _ (by omega) (by omega)).trans ho'
  have hM2 : WMv b0 h1 th s := WMv_move hM1 (fun x a b => f3.1 x a (by omega))
  obtain ⟨h3, th', g1, g2, g3⟩ := f4 _ th hM2
  refine ⟨r, h1, h3, (xo8 hW).trans f1, (o9 hM2).trans g1, ⟨⟨s', th', WC_x f2 ?_ (fun x hx => g3.1 x (by omega)), g2⟩, ⟨fo, (g3.1 _ (by omega)).trans ho1⟩, ?_, ?_⟩⟩
  · rw [g3.2.1]
    exact Nat.le_refl _
  · have := f3.2.2.1
    rw [g3.2.1]
    omega
  · rw [g3.2.2]
    exact Nat.le_trans f3.2.2.2.2 (by rw [Nat.mul_succ, ← Nat.add_assoc]; exact Nat.add_le_add_right hn1 720)
theorem L_ck (hNN : 54400 < N) (hW : WC b0 h s) (hM1 : WMv b0 h th s) (ho : OutAt b0 h) (hs1 : hS h ≤ b0 + 414 + 3 * j) (hn1 : hN h ≤ M0 + 720 * j) : ∃ (r : Int64) (hA hB : zH), onO 8 b0 h (f_X8_checksum N b0 h) = some (.inl r, hA) ∧ onO 9 (b0 + 395) hA (f_X9_checksum N (b0 + 395) hA) = some (r, hB) ∧ InvL b0 M0 hB (j + 1) := by
  obtain ⟨d, K, t, ⟨q, hd, hK, ht⟩, ea, z, B⟩ := s
  obtain ⟨h1, f1, f2, f3⟩ := x_checksum (N := N) (by omega) hW
  obtain ⟨fo, ho'⟩ := ho
  have f3' := Keep_fra f3
  have ho1 : hM h1 (b0 + 413) = some (.inl (1, 1, .inr (.inl fo))) := (f3'.1 _ (by omega) (by omega)).trans ho'
  have hM2 : WMv b0 h1 th (d, K, t, (q, hd, hK, ht), ea, z, B) := WMv_move hM1 (fun x a b => f3'.1 x a (by omega))
  obtain ⟨S, B1, E, H, J, L, U, Z, W, e0, e1, e2, e3, e4, e5, e6, e7, e8⟩ := id hM2
  obtain ⟨J', k⟩ := m_checksum (N := N) (h := h1) (m := b0 + 395) (S := S) (B := B1) (E := E) (H := H) (J := J) (L := L) (U := U) (Z := Z) (W := W) (by omega) f2.2.1.2.1 f2.2.1.2.2
  rw [e0] at k
  have m2 : WMv b0 (mset h1 (b0 + 395) (upd S 0 (nI 0)) B1 (dI d) E H J' L U Z W) (nI 0) (d, K, t, (q, hd, hK, ht), ea, z, B) := by
    refine ⟨upd S 0 (nI 0), B1, E, H, J', L, U, Z, W, ms_ms, upS_eq _ _ _, ?_, e3, ?_, ?_, e6, e7, ?_⟩
    · rw [upS_ne (by omega)]; exact e2
    · rw [upS_ne (by omega)]; exact e4
    · rw [upS_ne (by omega)]; exact e5
    · rw [upS_ne (by omega), upS_ne (by omega)]; exact e8
  have km := KeepM_ms (b0 := b0) (h2 := h1) (S := upd S 0 (nI 0)) (B1 := B1) (D := dI d) (E := E) (H := H) (J := J') (L := L) (U := U) (Z := Z) (W := W)
  refine ⟨_, h1, _, (xo8 hW).trans f1, (o9 hM2).trans k, ⟨⟨_, nI 0, WC_x f2 ?_ (fun x hx => km.1 x (by omega)), m2⟩, ⟨fo, (km.1 _ (by omega)).trans ho1⟩, ?_, ?_⟩⟩
  · exact Nat.le_refl _
  · have := f3'.2.2.1
    rw [km.2.1]
    omega
  · rw [km.2.2]
    exact Nat.le_trans f3'.2.2.2.2 (by rw [Nat.mul_succ, ← Nat.add_assoc]; exact Nat.add_le_add_right hn1 720)
theorem ld_S {k : Nat} (hk : k < L) (hL : L ≤ 3072) : ldS L xs (nI k) = some (xs k) := by
  unfold ldS
  rw [nI_clamp (by omega), if_pos ⟨nI_nn (by omega), hk⟩]
theorem law_cond {i : Nat} (hL : L ≤ 3072) (hi : i ≤ 4000) : (nI L - (6 : Int32) < nI i) ↔ L < i + 6 := by
  rw [Int32.lt_iff_toInt_lt, Int32.toInt_sub, nI_toInt (by omega), nI_toInt (by omega)]
  have e6 : (6 : Int32).toInt = 6 := by decide
  rw [e6, Int.bmod_eq_of_le (by omega) (by omega)]
  omega
theorem L_load {i : Nat} (hNN : 54400 < N) (hLoad : ∀ (h : zH) (s : St) (x : Int32), WC b0 h s → PairW b0 (f_X8_load N b0 x) (f_X9_load N (b0 + 395) x) cSt h s) (hI : InvL b0 M0 h j) : ∃ (kk : Int32) (hA : zH) (b : Int32) (hB : zH), f_L_load N b0 (xs (i + 1)) (b0 + 413) h = some (kk, hA) ∧ onO 9 (b0 + 395) hA (f_X9_load N (b0 + 395) (xs (i + 1)) hA) = some (b, hB) ∧ onO 9 (b0 + 395) hB (f_X9_thrown N (b0 + 395) hB) = some (kk, hB) ∧ (kk = nI 0 → ldJ hB (b0 + 413) (0 : Int32) = some (b.toInt64)) ∧ InvL b0 M0 hB (j + 1) := by
  obtain ⟨⟨s, th, hW, hM1⟩, ho, hs1, hn1⟩ := hI
  obtain ⟨d, K, t, ⟨q, hd, hK, ht⟩, ea, z, B⟩ := s
  refine L_TW (G := fun hA => f_X9_load N (b0 + 395) (xs (i + 1)) hA) (st := fun x => x.toInt64) (CK := fun k3 y => (cSt k3).bind fun c => some (nI c, y)) hW hM1 ho hs1 hn1 (hLoad h _ (xs (i + 1)) hW) ?_ (fun k c hh hc => by show (cSt k).bind _ = _; rw [hc]; rfl)
  unfold f_L_load cSt
  congr 1
  funext y1
  cases y1.1 with
  | inl w => rfl
  | inr k =>
    simp only [zth]
    (repeat' split) <;> first | rfl | (simp_all; done)
theorem L_state {i : Nat} (hNN : 54400 < N) (hI : InvL b0 M0 h j) : ∃ (kk : Int32) (hA : zH) (b : Int32) (hB : zH), f_L_state N b0 (xs (i + 1)) (b0 + 413) h = some (kk, hA) ∧ onO 9 (b0 + 395) hA (f_X9_state N (b0 + 395) (xs (i + 1)) hA) = some (b, hB) ∧ onO 9 (b0 + 395) hB (f_X9_thrown N (b0 + 395) hB) = some (kk, hB) ∧ (kk = nI 0 → ldJ hB (b0 + 413) (0 : Int32) = some (b.toInt64)) ∧ InvL b0 M0 hB (j + 1) := by
  obtain ⟨⟨s, th, hW, hM1⟩, ho, hs1, hn1⟩ := hI
  obtain ⟨d, K, t, ⟨q, hd, hK, ht⟩, ea, z, B⟩ := s
  refine L_T (G := fun hA => f_X9_state N (b0 + 395) (xs (i + 1)) hA) (st := fun x => x.toInt64) (CK := fun k3 y => (cSt k3).bind fun c => some (nI c, y)) hW hM1 ho hs1 hn1 (PR_state hW (xs (i + 1))) ?_ (fun k c hh hc => by show (cSt k).bind _ = _; rw [hc]; rfl)
  unfold f_L_state cSt
  congr 1
  funext y1
  cases y1.1 with
  | inl w => rfl
  | inr k =>
    simp only [zth]
    (repeat' split) <;> first | rfl | (simp_all; done)
theorem L_player {i : Nat} (hNN : 54400 < N) (hI : InvL b0 M0 h j) : ∃ (kk : Int32) (hA : zH) (b : Int32) (hB : zH), f_L_player N b0 (xs (i + 1)) (xs (i + 2)) (b0 + 413) h = some (kk, hA) ∧ onO 9 (b0 + 395) hA (f_X9_player N (b0 + 395) (xs (i + 1)) (xs (i + 2)) hA) = some (b, hB) ∧ onO 9 (b0 + 395) hB (f_X9_thrown N (b0 + 395) hB) = some (kk, hB) ∧ (kk = nI 0 → ldJ hB (b0 + 413) (0 : Int32) = some (b.toInt64)) ∧ InvL b0 M0 hB (j + 1) := by
  obtain ⟨⟨s, th, hW, hM1⟩, ho, hs1, hn1⟩ := hI
  obtain ⟨d, K, t, ⟨q, hd, hK, ht⟩, ea, z, B⟩ := s
  refine L_T (G := fun hA => f_X9_player N (b0 + 395) (xs (i + 1)) (xs (i + 2)) hA) (st := fun x => x.toInt64) (CK := fun k3 y => (cPl k3).bind fun c => some (nI c, y)) hW hM1 ho hs1 hn1 (PR_player hW (xs (i + 1)) (xs (i + 2))) ?_ (fun k c hh hc => by show (cPl k).bind _ = _; rw [hc]; rfl)
  unfold f_L_player cPl
  congr 1
  funext y1
  cases y1.1 with
  | inl w => rfl
  | inr k =>
    simp only [zth]
    (repeat' split) <;> first | rfl | (simp_all; done)
theorem L_card {i : Nat} (hNN : 54400 < N) (hI : InvL b0 M0 h j) : ∃ (kk : Int32) (hA : zH) (b : Int32) (hB : zH), f_L_card N b0 (xs (i + 1)) (xs (i + 2)) (xs (i + 3)) (b0 + 413) h = some (kk, hA) ∧ onO 9 (b0 + 395) hA (f_X9_card N (b0 + 395) (xs (i + 1)) (xs (i + 2)) (xs (i + 3)) hA) = some (b, hB) ∧ onO 9 (b0 + 395) hB (f_X9_thrown N (b0 + 395) hB) = some (kk, hB) ∧ (kk = nI 0 → ldJ hB (b0 + 413) (0 : Int32) = some (b.toInt64)) ∧ InvL b0 M0 hB (j + 1) := by
  obtain ⟨⟨s, th, hW, hM1⟩, ho, hs1, hn1⟩ := hI
  obtain ⟨d, K, t, ⟨q, hd, hK, ht⟩, ea, z, B⟩ := s
  refine L_T (G := fun hA => f_X9_card N (b0 + 395) (xs (i + 1)) (xs (i + 2)) (xs (i + 3)) hA) (st := fun x => x.toInt64) (CK := fun k3 y => (cCd k3).bind fun c => some (nI c, y)) hW hM1 ho hs1 hn1 (PR_card (by omega) hW (xs (i + 1)) (xs (i + 2)) (xs (i + 3))) ?_ (fun k c hh hc => by show (cCd k).bind _ = _; rw [hc]; rfl)
  unfold f_L_card cCd
  congr 1
  funext y1
  cases y1.1 with
  | inl w => rfl
  | inr k =>
    simp only [zth]
    (repeat' split) <;> first | rfl | (simp_all; done)
theorem L_bid {i : Nat} (hNN : 54400 < N) (hI : InvL b0 M0 h j) : ∃ (kk : Int32) (hA : zH) (b : Int32) (hB : zH), f_L_bid N b0 (xs (i + 1)) (xs (i + 2)) (b0 + 413) h = some (kk, hA) ∧ onO 9 (b0 + 395) hA (f_X9_bid N (b0 + 395) (xs (i + 1)) (xs (i + 2)) hA) = some (b, hB) ∧ onO 9 (b0 + 395) hB (f_X9_thrown N (b0 + 395) hB) = some (kk, hB) ∧ (kk = nI 0 → ldJ hB (b0 + 413) (0 : Int32) = some (b.toInt64)) ∧ InvL b0 M0 hB (j + 1) := by
  obtain ⟨⟨s, th, hW, hM1⟩, ho, hs1, hn1⟩ := hI
  obtain ⟨d, K, t, ⟨q, hd, hK, ht⟩, ea, z, B⟩ := s
  refine L_T (G := fun hA => f_X9_bid N (b0 + 395) (xs (i + 1)) (xs (i + 2)) hA) (st := fun x => x.toInt64) (CK := fun k3 y => (cBd k3).bind fun c => some (nI c, y)) hW hM1 ho hs1 hn1 (PR_bid (by omega) hW (xs (i + 1)) (xs (i + 2))) ?_ (fun k c hh hc => by show (cBd k).bind _ = _; rw [hc]; rfl)
  unfold f_L_bid cBd
  congr 1
  funext y1
  cases y1.1 with
  | inl w => rfl
  | inr k =>
    simp only [zth]
    (repeat' split) <;> first | rfl | (simp_all; done)
theorem L_productOf {i : Nat} (hNN : 54400 < N) (hI : InvL b0 M0 h j) : ∃ (kk : Int32) (hA : zH) (b : Int32) (hB : zH), f_L_productOf N b0 (xs (i + 1)) (xs (i + 2)) (b0 + 413) h = some (kk, hA) ∧ onO 9 (b0 + 395) hA (f_X9_productOf N (b0 + 395) (xs (i + 1)) (xs (i + 2)) hA) = some (b, hB) ∧ onO 9 (b0 + 395) hB (f_X9_thrown N (b0 + 395) hB) = some (kk, hB) ∧ (kk = nI 0 → ldJ hB (b0 + 413) (0 : Int32) = some (b.toInt64)) ∧ InvL b0 M0 hB (j + 1) := by
  obtain ⟨⟨s, th, hW, hM1⟩, ho, hs1, hn1⟩ := hI
  obtain ⟨d, K, t, ⟨q, hd, hK, ht⟩, ea, z, B⟩ := s
  refine L_T (G := fun hA => f_X9_productOf N (b0 + 395) (xs (i + 1)) (xs (i + 2)) hA) (st := fun x => x.toInt64) (CK := fun k3 y => (cSt k3).bind fun c => some (nI c, y)) hW hM1 ho hs1 hn1 (PR_productOf (by omega) hW (xs (i + 1)) (xs (i + 2))) ?_ (fun k c hh hc => by show (cSt k).bind _ = _; rw [hc]; rfl)
  unfold f_L_productOf cSt
  congr 1
  funext y1
  cases y1.1 with
  | inl w => rfl
  | inr k =>
    simp only [zth]
    (repeat' split) <;> first | rfl | (simp_all; done)
theorem L_multiply {i : Nat} (hNN : 54400 < N) (hI : InvL b0 M0 h j) : ∃ (kk : Int32) (hA : zH) (b : Int32) (hB : zH), f_L_multiply N b0 (xs (i + 1)) (xs (i + 2)) (b0 + 413) h = some (kk, hA) ∧ onO 9 (b0 + 395) hA (f_X9_multiply N (b0 + 395) (xs (i + 1)) (xs (i + 2)) hA) = some (b, hB) ∧ onO 9 (b0 + 395) hB (f_X9_thrown N (b0 + 395) hB) = some (kk, hB) ∧ (kk = nI 0 → ldJ hB (b0 + 413) (0 : Int32) = some (b.toInt64)) ∧ InvL b0 M0 hB (j + 1) := by
  obtain ⟨⟨s, th, hW, hM1⟩, ho, hs1, hn1⟩ := hI
  obtain ⟨d, K, t, ⟨q, hd, hK, ht⟩, ea, z, B⟩ := s
  refine L_T (G := fun hA => f_X9_multiply N (b0 + 395) (xs (i + 1)) (xs (i + 2)) hA) (st := fun x => x.toInt64) (CK := fun k3 y => (cSt k3).bind fun c => some (nI c, y)) hW hM1 ho hs1 hn1 (PR_multiply (by omega) hW (xs (i + 1)) (xs (i + 2))) ?_ (fun k c hh hc => by show (cSt k).bind _ = _; rw [hc]; rfl)
  unfold f_L_multiply cSt
  congr 1
  funext y1
  cases y1.1 with
  | inl w => rfl
  | inr k =>
    simp only [zth]
    (repeat' split) <;> first | rfl | (simp_all; done)
theorem L_inverse {i : Nat} (hNN : 54400 < N) (hI : InvL b0 M0 h j) : ∃ (kk : Int32) (hA : zH) (b : Int32) (hB : zH), f_L_inverse N b0 (xs (i + 1)) (b0 + 413) h = some (kk, hA) ∧ onO 9 (b0 + 395) hA (f_X9_inverse N (b0 + 395) (xs (i + 1)) hA) = some (b, hB) ∧ onO 9 (b0 + 395) hB (f_X9_thrown N (b0 + 395) hB) = some (kk, hB) ∧ (kk = nI 0 → ldJ hB (b0 + 413) (0 : Int32) = some (b.toInt64)) ∧ InvL b0 M0 hB (j + 1) := by
  obtain ⟨⟨s, th, hW, hM1⟩, ho, hs1, hn1⟩ := hI
  obtain ⟨d, K, t, ⟨q, hd, hK, ht⟩, ea, z, B⟩ := s
  refine L_T (G := fun hA => f_X9_inverse N (b0 + 395) (xs (i + 1)) hA) (st := fun x => x.toInt64) (CK := fun k3 y => (cSt k3).bind fun c => some (nI c, y)) hW hM1 ho hs1 hn1 (PR_inverse (by omega) hW (xs (i + 1))) ?_ (fun k c hh hc => by show (cSt k).bind _ = _; rw [hc]; rfl)
  unfold f_L_inverse cSt
  congr 1
  funext y1
  cases y1.1 with
  | inl w => rfl
  | inr k =>
    simp only [zth]
    (repeat' split) <;> first | rfl | (simp_all; done)
theorem L_order {i : Nat} (hNN : 54400 < N) (hI : InvL b0 M0 h j) : ∃ (kk : Int32) (hA : zH) (b : Int32) (hB : zH), f_L_order N b0 (xs (i + 1)) (b0 + 413) h = some (kk, hA) ∧ onO 9 (b0 + 395) hA (f_X9_order N (b0 + 395) (xs (i + 1)) hA) = some (b, hB) ∧ onO 9 (b0 + 395) hB (f_X9_thrown N (b0 + 395) hB) = some (kk, hB) ∧ (kk = nI 0 → ldJ hB (b0 + 413) (0 : Int32) = some (b.toInt64)) ∧ InvL b0 M0 hB (j + 1) := by
  obtain ⟨⟨s, th, hW, hM1⟩, ho, hs1, hn1⟩ := hI
  obtain ⟨d, K, t, ⟨q, hd, hK, ht⟩, ea, z, B⟩ := s
  refine L_T (G := fun hA => f_X9_order N (b0 + 395) (xs (i + 1)) hA) (st := fun x => x.toInt64) (CK := fun k3 y => (cSt k3).bind fun c => some (nI c, y)) hW hM1 ho hs1 hn1 (PR_order (by omega) hW (xs (i + 1))) ?_ (fun k c hh hc => by show (cSt k).bind _ = _; rw [hc]; rfl)
  unfold f_L_order cSt
  congr 1
  funext y1
  cases y1.1 with
  | inl w => rfl
  | inr k =>
    simp only [zth]
    (repeat' split) <;> first | rfl | (simp_all; done)
theorem L_reach {i : Nat} (hNN : 54400 < N) (hI : InvL b0 M0 h j) : ∃ (kk : Int32) (hA : zH) (b : Int32) (hB : zH), f_L_reach N b0 (xs (i + 1)) (b0 + 413) h = some (kk, hA) ∧ onO 9 (b0 + 395) hA (f_X9_reach N (b0 + 395) (xs (i + 1)) hA) = some (b, hB) ∧ onO 9 (b0 + 395) hB (f_X9_thrown N (b0 + 395) hB) = some (kk, hB) ∧ (kk = nI 0 → ldJ hB (b0 + 413) (0 : Int32) = some (b.toInt64)) ∧ InvL b0 M0 hB (j + 1) := by
  obtain ⟨⟨s, th, hW, hM1⟩, ho, hs1, hn1⟩ := hI
  obtain ⟨d, K, t, ⟨q, hd, hK, ht⟩, ea, z, B⟩ := s
  refine L_T (G := fun hA => f_X9_reach N (b0 + 395) (xs (i + 1)) hA) (st := fun x => x.toInt64) (CK := fun k3 y => (cRc k3).bind fun c => some (nI c, y)) hW hM1 ho hs1 hn1 (PR_reach hNN hW (xs (i + 1))) ?_ (fun k c hh hc => by show (cRc k).bind _ = _; rw [hc]; rfl)
  unfold f_L_reach cRc
  congr 1
  funext y1
  cases y1.1 with
  | inl w => rfl
  | inr k =>
    simp only [zth]
    (repeat' split) <;> first | rfl | (simp_all; done)
theorem L_reaches {i : Nat} (hNN : 54400 < N) (hI : InvL b0 M0 h j) : ∃ (kk : Int32) (hA : zH) (b : Int32) (hB : zH), f_L_reaches N b0 (xs (i + 1)) (xs (i + 2)) (b0 + 413) h = some (kk, hA) ∧ onO 9 (b0 + 395) hA (f_X9_reaches N (b0 + 395) (xs (i + 1)) (xs (i + 2)) hA) = some (b, hB) ∧ onO 9 (b0 + 395) hB (f_X9_thrown N (b0 + 395) hB) = some (kk, hB) ∧ (kk = nI 0 → ldJ hB (b0 + 413) (0 : Int32) = some (if b = 0 then (0 : Int64) else 1)) ∧ InvL b0 M0 hB (j + 1) := by
  obtain ⟨⟨s, th, hW, hM1⟩, ho, hs1, hn1⟩ := hI
  obtain ⟨d, K, t, ⟨q, hd, hK, ht⟩, ea, z, B⟩ := s
  refine L_T (G := fun hA => f_X9_reaches N (b0 + 395) (xs (i + 1)) (xs (i + 2)) hA) (st := fun x => if x = 0 then (0 : Int64) else 1) (CK := fun k3 y => (cPl k3).bind fun c => some (nI c, y)) hW hM1 ho hs1 hn1 (PR_reaches hNN hW (xs (i + 1)) (xs (i + 2))) ?_ (fun k c hh hc => by show (cPl k).bind _ = _; rw [hc]; rfl)
  unfold f_L_reaches f_L_reaches_j16 cPl
  congr 1
  funext y1
  cases y1.1 with
  | inl w => 
    simp only [zth]
    by_cases hw : w = 0
    · rw [if_pos hw, if_pos hw]
    · rw [if_neg hw, if_neg hw]
  | inr k =>
    simp only [zth]
    (repeat' split) <;> first | rfl | (simp_all; done)
theorem L_generated {i : Nat} (hNN : 54400 < N) (hI : InvL b0 M0 h j) : ∃ (kk : Int32) (hA : zH) (b : Int32) (hB : zH), f_L_generated N b0 (xs (i + 1)) (b0 + 413) h = some (kk, hA) ∧ onO 9 (b0 + 395) hA (f_X9_generated N (b0 + 395) (xs (i + 1)) hA) = some (b, hB) ∧ onO 9 (b0 + 395) hB (f_X9_thrown N (b0 + 395) hB) = some (kk, hB) ∧ (kk = nI 0 → ldJ hB (b0 + 413) (0 : Int32) = some (b.toInt64)) ∧ InvL b0 M0 hB (j + 1) := by
  obtain ⟨⟨s, th, hW, hM1⟩, ho, hs1, hn1⟩ := hI
  obtain ⟨d, K, t, ⟨q, hd, hK, ht⟩, ea, z, B⟩ := s
  refine L_T (G := fun hA => f_X9_generated N (b0 + 395) (xs (i + 1)) hA) (st := fun x => x.toInt64) (CK := fun k3 y => (cRc k3).bind fun c => some (nI c, y)) hW hM1 ho hs1 hn1 (PR_generated hNN hW (xs (i + 1))) ?_ (fun k c hh hc => by show (cRc k).bind _ = _; rw [hc]; rfl)
  unfold f_L_generated cRc
  congr 1
  funext y1
  cases y1.1 with
  | inl w => rfl
  | inr k =>
    simp only [zth]
    (repeat' split) <;> first | rfl | (simp_all; done)
theorem L_fewest {i : Nat} (hNN : 54400 < N) (hI : InvL b0 M0 h j) : ∃ (kk : Int32) (hA : zH) (b : Int32) (hB : zH), f_L_fewest N b0 (xs (i + 1)) (b0 + 413) h = some (kk, hA) ∧ onO 9 (b0 + 395) hA (f_X9_fewest N (b0 + 395) (xs (i + 1)) hA) = some (b, hB) ∧ onO 9 (b0 + 395) hB (f_X9_thrown N (b0 + 395) hB) = some (kk, hB) ∧ (kk = nI 0 → ldJ hB (b0 + 413) (0 : Int32) = some (b.toInt64)) ∧ InvL b0 M0 hB (j + 1) := by
  obtain ⟨⟨s, th, hW, hM1⟩, ho, hs1, hn1⟩ := hI
  obtain ⟨d, K, t, ⟨q, hd, hK, ht⟩, ea, z, B⟩ := s
  refine L_T (G := fun hA => f_X9_fewest N (b0 + 395) (xs (i + 1)) hA) (st := fun x => x.toInt64) (CK := fun k3 y => (cRc k3).bind fun c => some (nI c, y)) hW hM1 ho hs1 hn1 (PR_fewest hNN hW (xs (i + 1))) ?_ (fun k c hh hc => by show (cRc k).bind _ = _; rw [hc]; rfl)
  unfold f_L_fewest cRc
  congr 1
  funext y1
  cases y1.1 with
  | inl w => rfl
  | inr k =>
    simp only [zth]
    (repeat' split) <;> first | rfl | (simp_all; done)
theorem L_cheapest {i : Nat} (hNN : 54400 < N) (hI : InvL b0 M0 h j) : ∃ (kk : Int32) (hA : zH) (b : Int32) (hB : zH), f_L_cheapest N b0 (xs (i + 1)) (b0 + 413) h = some (kk, hA) ∧ onO 9 (b0 + 395) hA (f_X9_cheapest N (b0 + 395) (xs (i + 1)) hA) = some (b, hB) ∧ onO 9 (b0 + 395) hB (f_X9_thrown N (b0 + 395) hB) = some (kk, hB) ∧ (kk = nI 0 → ldJ hB (b0 + 413) (0 : Int32) = some (b.toInt64)) ∧ InvL b0 M0 hB (j + 1) := by
  obtain ⟨⟨s, th, hW, hM1⟩, ho, hs1, hn1⟩ := hI
  obtain ⟨d, K, t, ⟨q, hd, hK, ht⟩, ea, z, B⟩ := s
  refine L_T (G := fun hA => f_X9_cheapest N (b0 + 395) (xs (i + 1)) hA) (st := fun x => x.toInt64) (CK := fun k3 y => (cRc k3).bind fun c => some (nI c, y)) hW hM1 ho hs1 hn1 (PR_cheapest hNN hW (xs (i + 1))) ?_ (fun k c hh hc => by show (cRc k).bind _ = _; rw [hc]; rfl)
  unfold f_L_cheapest cRc
  congr 1
  funext y1
  cases y1.1 with
  | inl w => rfl
  | inr k =>
    simp only [zth]
    (repeat' split) <;> first | rfl | (simp_all; done)
theorem L_opening {i : Nat} (hNN : 54400 < N) (hI : InvL b0 M0 h j) : ∃ (kk : Int32) (hA : zH) (b : Int32) (hB : zH), f_L_opening N b0 (xs (i + 1)) (b0 + 413) h = some (kk, hA) ∧ onO 9 (b0 + 395) hA (f_X9_opening N (b0 + 395) (xs (i + 1)) hA) = some (b, hB) ∧ onO 9 (b0 + 395) hB (f_X9_thrown N (b0 + 395) hB) = some (kk, hB) ∧ (kk = nI 0 → ldJ hB (b0 + 413) (0 : Int32) = some (b.toInt64)) ∧ InvL b0 M0 hB (j + 1) := by
  obtain ⟨⟨s, th, hW, hM1⟩, ho, hs1, hn1⟩ := hI
  obtain ⟨d, K, t, ⟨q, hd, hK, ht⟩, ea, z, B⟩ := s
  refine L_T (G := fun hA => f_X9_opening N (b0 + 395) (xs (i + 1)) hA) (st := fun x => x.toInt64) (CK := fun k3 y => (cRc k3).bind fun c => some (nI c, y)) hW hM1 ho hs1 hn1 (PR_opening hNN hW (xs (i + 1))) ?_ (fun k c hh hc => by show (cRc k).bind _ = _; rw [hc]; rfl)
  unfold f_L_opening cRc
  congr 1
  funext y1
  cases y1.1 with
  | inl w => rfl
  | inr k =>
    simp only [zth]
    (repeat' split) <;> first | rfl | (simp_all; done)
theorem L_play {i : Nat} (hNN : 54400 < N) (hI : InvL b0 M0 h j) : ∃ (kk : Int32) (hA : zH) (b : Int32) (hB : zH), f_L_play N b0 (xs (i + 1)) (b0 + 413) h = some (kk, hA) ∧ onO 9 (b0 + 395) hA (f_X9_play N (b0 + 395) (xs (i + 1)) hA) = some (b, hB) ∧ onO 9 (b0 + 395) hB (f_X9_thrown N (b0 + 395) hB) = some (kk, hB) ∧ (kk = nI 0 → ldJ hB (b0 + 413) (0 : Int32) = some (b.toInt64)) ∧ InvL b0 M0 hB (j + 1) := by
  obtain ⟨⟨s, th, hW, hM1⟩, ho, hs1, hn1⟩ := hI
  obtain ⟨d, K, t, ⟨q, hd, hK, ht⟩, ea, z, B⟩ := s
  refine L_T (G := fun hA => f_X9_play N (b0 + 395) (xs (i + 1)) hA) (st := fun x => x.toInt64) (CK := fun k3 y => (cPy k3).bind fun c => some (nI c, y)) hW hM1 ho hs1 hn1 (PR_play (by omega) hW (xs (i + 1))) ?_ (fun k c hh hc => by show (cPy k).bind _ = _; rw [hc]; rfl)
  unfold f_L_play cPy
  congr 1
  funext y1
  cases y1.1 with
  | inl w => rfl
  | inr k =>
    simp only [zth]
    (repeat' split) <;> first | rfl | (simp_all; done)
theorem L_cancel {i : Nat} (hNN : 54400 < N) (hI : InvL b0 M0 h j) : ∃ (kk : Int32) (hA : zH) (b : Int32) (hB : zH), f_L_cancel N b0 (xs (i + 1)) (xs (i + 2)) (b0 + 413) h = some (kk, hA) ∧ onO 9 (b0 + 395) hA (f_X9_cancel N (b0 + 395) (xs (i + 1)) (xs (i + 2)) hA) = some (b, hB) ∧ onO 9 (b0 + 395) hB (f_X9_thrown N (b0 + 395) hB) = some (kk, hB) ∧ (kk = nI 0 → ldJ hB (b0 + 413) (0 : Int32) = some (b.toInt64)) ∧ InvL b0 M0 hB (j + 1) := by
  obtain ⟨⟨s, th, hW, hM1⟩, ho, hs1, hn1⟩ := hI
  obtain ⟨d, K, t, ⟨q, hd, hK, ht⟩, ea, z, B⟩ := s
  refine L_T (G := fun hA => f_X9_cancel N (b0 + 395) (xs (i + 1)) (xs (i + 2)) hA) (st := fun x => x.toInt64) (CK := fun k3 y => (cPy k3).bind fun c => some (nI c, y)) hW hM1 ho hs1 hn1 (PR_cancel (by omega) hW (xs (i + 1)) (xs (i + 2))) ?_ (fun k c hh hc => by show (cPy k).bind _ = _; rw [hc]; rfl)
  unfold f_L_cancel cPy
  congr 1
  funext y1
  cases y1.1 with
  | inl w => rfl
  | inr k =>
    simp only [zth]
    (repeat' split) <;> first | rfl | (simp_all; done)
theorem L_pass {i : Nat} (hNN : 54400 < N) (hI : InvL b0 M0 h j) : ∃ (kk : Int32) (hA : zH) (b : Int32) (hB : zH), f_L_pass N b0 (b0 + 413) h = some (kk, hA) ∧ onO 9 (b0 + 395) hA (f_X9_pass N (b0 + 395) hA) = some (b, hB) ∧ onO 9 (b0 + 395) hB (f_X9_thrown N (b0 + 395) hB) = some (kk, hB) ∧ (kk = nI 0 → ldJ hB (b0 + 413) (0 : Int32) = some (b.toInt64)) ∧ InvL b0 M0 hB (j + 1) := by
  obtain ⟨⟨s, th, hW, hM1⟩, ho, hs1, hn1⟩ := hI
  obtain ⟨d, K, t, ⟨q, hd, hK, ht⟩, ea, z, B⟩ := s
  refine L_T (G := fun hA => f_X9_pass N (b0 + 395) hA) (st := fun x => x.toInt64) (CK := fun k3 y => (cPs k3).bind fun c => some (nI c, y)) hW hM1 ho hs1 hn1 (PR_pass (by omega) hW) ?_ (fun k c hh hc => by show (cPs k).bind _ = _; rw [hc]; rfl)
  unfold f_L_pass cPs
  congr 1
  funext y1
  cases y1.1 with
  | inl w => rfl
  | inr k =>
    simp only [zth]
    (repeat' split) <;> first | rfl | (simp_all; done)
theorem L_give {i : Nat} (hNN : 54400 < N) (hI : InvL b0 M0 h j) : ∃ (kk : Int32) (hA : zH) (b : Int32) (hB : zH), f_L_give N b0 (xs (i + 1)) (xs (i + 2)) (xs (i + 3)) (b0 + 413) h = some (kk, hA) ∧ onO 9 (b0 + 395) hA (f_X9_give N (b0 + 395) (xs (i + 1)) (xs (i + 2)) (xs (i + 3)) hA) = some (b, hB) ∧ onO 9 (b0 + 395) hB (f_X9_thrown N (b0 + 395) hB) = some (kk, hB) ∧ (kk = nI 0 → ldJ hB (b0 + 413) (0 : Int32) = some (b.toInt64)) ∧ InvL b0 M0 hB (j + 1) := by
  obtain ⟨⟨s, th, hW, hM1⟩, ho, hs1, hn1⟩ := hI
  obtain ⟨d, K, t, ⟨q, hd, hK, ht⟩, ea, z, B⟩ := s
  refine L_T (G := fun hA => f_X9_give N (b0 + 395) (xs (i + 1)) (xs (i + 2)) (xs (i + 3)) hA) (st := fun x => x.toInt64) (CK := fun k3 y => (cGv k3).bind fun c => some (nI c, y)) hW hM1 ho hs1 hn1 (PR_give (by omega) hW (xs (i + 1)) (xs (i + 2)) (xs (i + 3))) ?_ (fun k c hh hc => by show (cGv k).bind _ = _; rw [hc]; rfl)
  unfold f_L_give cGv
  congr 1
  funext y1
  cases y1.1 with
  | inl w => rfl
  | inr k =>
    simp only [zth]
    (repeat' split) <;> first | rfl | (simp_all; done)
theorem L_discard {i : Nat} (hNN : 54400 < N) (hI : InvL b0 M0 h j) : ∃ (kk : Int32) (hA : zH) (b : Int32) (hB : zH), f_L_discard N b0 (xs (i + 1)) (xs (i + 2)) (b0 + 413) h = some (kk, hA) ∧ onO 9 (b0 + 395) hA (f_X9_discard N (b0 + 395) (xs (i + 1)) (xs (i + 2)) hA) = some (b, hB) ∧ onO 9 (b0 + 395) hB (f_X9_thrown N (b0 + 395) hB) = some (kk, hB) ∧ (kk = nI 0 → ldJ hB (b0 + 413) (0 : Int32) = some (b.toInt64)) ∧ InvL b0 M0 hB (j + 1) := by
  obtain ⟨⟨s, th, hW, hM1⟩, ho, hs1, hn1⟩ := hI
  obtain ⟨d, K, t, ⟨q, hd, hK, ht⟩, ea, z, B⟩ := s
  refine L_T (G := fun hA => f_X9_discard N (b0 + 395) (xs (i + 1)) (xs (i + 2)) hA) (st := fun x => x.toInt64) (CK := fun k3 y => (cDs k3).bind fun c => some (nI c, y)) hW hM1 ho hs1 hn1 (PR_discard (by omega) hW (xs (i + 1)) (xs (i + 2))) ?_ (fun k c hh hc => by show (cDs k).bind _ = _; rw [hc]; rfl)
  unfold f_L_discard cDs
  congr 1
  funext y1
  cases y1.1 with
  | inl w => rfl
  | inr k =>
    simp only [zth]
    (repeat' split) <;> first | rfl | (simp_all; done)
end M9998

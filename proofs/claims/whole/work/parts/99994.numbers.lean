/-! ===== a number, an element: both sides ===== -/
theorem SK_4' {S : Nat → Int32} {x : Int32} {k : Nat} (hk : k ≠ 4) : upd S 4 x k = S k := upS_ne hk
section M99994
variable {h h2 : zH} {r0 g m N : Nat} {V B C : Nat → Int32} {cz : Int32} {S B1 D E : Nat → Int32} {H : Nat → Nat → Int32} {J : Nat → Int64} {L U Z W : Nat → Int32} {b : Nat → Nat} {len q : Nat}
theorem numP {lo hi1 : Nat} {hi : Int32} (hNN : 2000 < N) (hlo : lo ≤ 1000) (hc : ∀ v, v < 2 ^ 30 → (nI v ≤ hi) = (v < hi1)) (hm : ∀ v, v < 2 ^ 30 → (hi < nI v) = (hi1 ≤ v)) (hT : TxtB B b len) (hT1 : TxtB B1 b len) (hA : At b len V S q) :
    (∃ (V' S' : Nat → Int32) (x : Nat), f_X7_takeNumber N r0 (nI lo) hi (rset h r0 g V B cz C) = some (nI 0, rset h r0 g V' B cz C) ∧ f_X9_number N m (nI lo) hi (mset h2 m S B1 D E H J L U Z W) = some (nI x, mset h2 m S' B1 D E H J L U Z W) ∧ V' 12 = S' 5 ∧ S' 5 ≠ nI 0 ∧ V' 13 = S' 6 ∧ VK V V' ∧ SK S S') ∨
    (∃ (V' S' : Nat → Int32) (v q' : Nat), lo ≤ v ∧ v < hi1 ∧ v ≤ 1000000 ∧ f_X7_takeNumber N r0 (nI lo) hi (rset h r0 g V B cz C) = some (nI 1, rset h r0 g V' B cz C) ∧ V' 8 = nI v ∧ f_X9_number N m (nI lo) hi (mset h2 m S B1 D E H J L U Z W) = some (nI v, mset h2 m S' B1 D E H J L U Z W) ∧ At b len V' S' q' ∧ q < q' ∧ V45 V V' ∧ SK S S' ∧ S' 6 = S 6 ∧ S' 12 = nI q) := by
  obtain ⟨hq, sq, tk, v12, ⟨pm, p1, p2, p3⟩, s3, s5⟩ := hA
  have hl := hT.1
  have tb := tk_bounds (b := b) hq
  by_cases hk : tkK b len q = 1
  · obtain ⟨S', n1, n2, n3, n4, n5⟩ := m_number_y (N := N) (h := h2) (m := m) (B := B1) (D := D) (E := E) (H := H) (J := J) (L := L) (U := U) (Z := Z) (W := W) (S := S) (p := pm) (lo := lo) (hi1 := hi1) (hi := hi) (by omega) hlo hm hT1 s3 p3 s5 p1 (by rw [p2]; exact hk)
    rw [p2] at n1 n3 n4 n5
    by_cases hv : tkV b len q < lo ∨ hi1 ≤ tkV b len q
    · have xt := x_takeNumber_r (N := N) (h := h) (q := r0) (g := g) (V := V) (B := B) (cz := cz) (C := C) (p := q) (lo := lo) (hi1 := hi1) (hi := hi) hlo hc hq hT tk (by rw [sq]; exact hk) (by rw [sq]; exact hv)
      rw [sq] at xt
      obtain ⟨n6, n7⟩ := n5 hv
      refine Or.inl ⟨_, S', _, xt, n1, ?_, by rw [n6]; exact errs_ne.2.1, ?_, VK_err, n2⟩
      · unfold errV
        rw [upS_ne (by omega), upS_eq, n6]
      · unfold errV
        rw [upS_eq, n7]
    · obtain ⟨V', x1, x2, x3, x4⟩ := x_takeNumber_y (N := N) (h := h) (q := r0) (g := g) (V := V) (B := B) (cz := cz) (C := C) (p := q) (lo := lo) (hi1 := hi1) (hi := hi) (by omega) hlo hc hq hT tk (by rw [sq]; exact hk) (by rw [sq]; omega) (by rw [sq]; omega)
      rw [sq] at x2 x4
      obtain ⟨n6, n7, n8⟩ := n4 (by omega) (by omega)
      have hlt : q < len := (tkV_eq hk).1
      have htE := tb.2.2.2 hlt
      have q1le := skp_le (b := b) tb.2.1
      exact Or.inr ⟨V', S', tkV b len q, skp b len (tkE b len q), by omega, by omega, tb.2.2.1, x1, x4, n1, At_mk tb.2.1 x2 (by rw [x3 12 (by omega) (by omega) (by omega) (by omega) (by omega)]; exact v12) n6 (by rw [n2 3 (by omega) (by omega) (by omega) (by omega)]; exact s3) n7, by omega, x3, n2, n8, n3⟩
  · have xt := x_takeNumber_s (N := N) (h := h) (q := r0) (g := g) (V := V) (B := B) (cz := cz) (C := C) (p := q) (lo := nI lo) (hi := hi) hq hT tk (by rw [sq]; exact hk)
    rw [sq] at xt
    have ms := m_number_s (N := N) (h := h2) (m := m) (B := B1) (D := D) (E := E) (H := H) (J := J) (L := L) (U := U) (Z := Z) (W := W) (S := S) (p := pm) (lo := nI lo) (hi := hi) (by omega) hT1 s3 p3 s5 p1 (by rw [p2]; exact hk)
    rw [p2] at ms
    refine Or.inl ⟨_, _, 0, xt, ms, ?_, ?_, ?_, VK_err, SK_err⟩
    · unfold errV mErr
      rw [upS_ne (by omega), upS_eq, upS_ne (by omega), upS_eq]
    · rw [mErr_5]
      exact errs_ne.1
    · unfold errV mErr
      rw [upS_eq, upS_eq]
end M99994
section M99994b
variable {h h2 : zH} {r0 g rl m N : Nat} {V B C : Nat → Int32} {cz : Int32} {T R : Nat → Int32} {X : Nat → Nat → Int32} {P Q : Nat → Int32} {S B1 D E : Nat → Int32} {H : Nat → Nat → Int32} {J : Nat → Int64} {L U Z W : Nat → Int32} {b e : Nat → Nat} {len q : Nat}
theorem cs_g8 : gI (cset h r0 g rl V B cz C T R X P Q) (r0 + 4) 0 8 = some (T 8) := by
  rw [cs_comm]
  simp only [gI_a]
theorem cs_g9 : gI (cset h r0 g rl V B cz C T R X P Q) (r0 + 4) 0 9 = some (T 9) := by
  rw [cs_comm]
  simp only [gI_a]
theorem GrpAt_cs (hG : GrpAt h g) (hg : g + 2 < r0) : GrpAt (cset h r0 g rl V B cz C T R X P Q) g := GrpAt_sim hG (fun k hk => Or.inl (cs_out (by omega)))
/-- the class's element -/
theorem x_elt_s (hA : At b len V S q) (hk : tkK b len q ≠ 1) : f_X7_takeElement N r0 (cset h r0 g rl V B cz C T R X P Q) = some (nI 0, cset h r0 g rl (errV V (-nI 2) q) B cz C T R X P Q) := by
  obtain ⟨hq, sq, tk, v12, -, s3, s5⟩ := hA
  have k4 := tkK_lt b len q
  obtain ⟨t3, t5, t4, t6, t7⟩ := tk
  rw [sq] at t5 t4 t6 t7
  unfold cset
  simp (disch := omega) only [f_X7_takeElement, r_o7, rg_I, t4, t5, nlit, neqF, x_fail, zB_0', ↓reduceIte, Option.bind_some]
theorem x_elt_v {o : Option Nat} (hNN : 2000 < N) (hG : GrpAt h g) (hg : g + 2 < r0) {n : Nat} (hn : inN n) (h8 : T 8 = nI n) (hT : TxtB B b len) (hA : At b len V S q) (hk : tkK b len q = 1) (ho : eltI n (nI (tkV b len q)) = o) :
    (o = none → f_X7_takeElement N r0 (cset h r0 g rl V B cz C T R X P Q) = some (nI 0, cset h r0 g rl (errV (upd V 8 (-nI 1)) (-nI 3) q) B cz C T R X P Q)) ∧
    (∀ x, o = some x → ∃ V', f_X7_takeElement N r0 (cset h r0 g rl V B cz C T R X P Q) = some (nI 1, cset h r0 g rl V' B cz C T R X P Q) ∧ TokAt V' b len (tkE b len q) ∧ V45 V V' ∧ V' 8 = nI x) := by
  obtain ⟨hq, sq, tk, v12, -, s3, s5⟩ := hA
  have tb := tk_bounds (b := b) hq
  have k4 := tkK_lt b len q
  obtain ⟨t3, t5, t4, t6, t7⟩ := tk
  rw [sq] at t5 t4 t6 t7
  rw [hk] at t4
  have fr := x_fromNumber (N := N) (h := cset h r0 g rl V B cz C T R X P Q) (GrpAt_cs hG hg) (by omega) hn (nI (tkV b len q))
  have o2 : ∀ F : Option (Int32 × zH), onO 2 g (cset h r0 g rl V B cz C T R X P Q) F = F := fun F => onO_of' (GrpAt_cs hG hg).1
  have g8 := cs_g8 (h := h) (r0 := r0) (g := g) (rl := rl) (V := V) (B := B) (cz := cz) (C := C) (T := T) (R := R) (X := X) (P := P) (Q := Q)
  rw [h8] at g8
  rw [ho] at fr
  unfold cset at fr o2 g8 ⊢
  constructor
  · intro h0
    rw [h0] at fr
    have e1 : (-nI 1 = -nI 1) = True := eq_true rfl
    replace fr : f_X2_fromNumber N g (nI (tkV b len q)) (nI n) (rset (aset h (r0 + 4) g rl T R X P Q) r0 g V B cz C) = some (-nI 1, rset (aset h (r0 + 4) g rl T R X P Q) r0 g V B cz C) := fr
    simp (disch := omega) only [f_X7_takeElement, r_o7, rg_I, rg_A, t4, t5, t7, g8, fr, o2, nlit, neqT, rp_I, upS_eq, upS_ne, e1, x_fail, zB_0', ↓reduceIte, Option.bind_some]
  · intro x h0
    rw [h0] at fr ho
    replace fr : f_X2_fromNumber N g (nI (tkV b len q)) (nI n) (rset (aset h (r0 + 4) g rl T R X P Q) r0 g V B cz C) = some (nI x, rset (aset h (r0 + 4) g rl T R X P Q) r0 g V B cz C) := fr
    obtain ⟨y1, -⟩ := eltI_some hn ho
    have f9 := fct_le hn
    have e1 : (nI x = -nI 1) = False := eq_false (fun h9 => nI_pos (n := x) (by omega) (by rw [h9]; decide))
    obtain ⟨V', a1, a2, a3⟩ := x_advance (N := N) (h := aset h (r0 + 4) g rl T R X P Q) (q := r0) (g := g) (B := B) (cz := cz) (C := C) (V := upd V 8 (nI x)) (p := tkE b len q) (by omega) hT (by rw [upS_ne (by omega)]; exact t3) (by rw [upS_ne (by omega)]; exact t6) tb.2.1
    refine ⟨V', ?_, a2, fun k k4 k5 k6 k7 k8 => (a3 k k4 k5 k6 k7).trans (upS_ne k8), (a3 8 (by omega) (by omega) (by omega) (by omega)).trans (upS_eq _ _ _)⟩
    simp (disch := omega) only [f_X7_takeElement, r_o7, rg_I, rg_A, t4, t5, t7, g8, fr, o2, nlit, neqT, rp_I, upS_eq, upS_ne, e1, a1, ↓reduceIte, Option.bind_some]
/-- too great a number is no element -/
theorem elt_big {n v : Nat} (hn : inN n) (hv : v < 2 ^ 31) (h9 : 54322 ≤ v) : eltI n (nI v) = none := by
  have k := m_isElementI (N := 20) (h := (0, 0, fun _ => none)) (by omega) hn (nI v)
  have e : f_X9_isElement 20 (nI v) (nI n) (0, 0, fun _ => none) = some (nI 0, (0, 0, fun _ => none)) := by
    simp (disch := omega) only [f_X9_isElement, nlit, nltF, nleF, ↓reduceIte]
  rw [e] at k
  cases ho : eltI n (nI v) with
  | none => rfl
  | some x =>
    rw [ho] at k
    have k1 : nI 0 = nI 1 := (Prod.mk.inj (Option.some.inj k)).1
    exact absurd k1 (by decide)
theorem eltP {n : Nat} (hNN : 2000 < N) (hG : GrpAt h g) (hg : g + 2 < r0) (hn : inN n) (h8 : T 8 = nI n) (h0 : e 0 = n) (hT : TxtB B b len) (hT1 : TxtB B1 b len) (hA : At b len V S q) :
    (∃ (V' S' : Nat → Int32) (x : Nat), f_X7_takeElement N r0 (cset h r0 g rl V B cz C T R X P Q) = some (nI 0, cset h r0 g rl V' B cz C T R X P Q) ∧ f_X9_readElement N m (mset h2 m S B1 D (dI e) H J L U Z W) = some (nI x, mset h2 m S' B1 D (dI e) H J L U Z W) ∧ V' 12 = S' 5 ∧ S' 5 ≠ nI 0 ∧ V' 13 = S' 6 ∧ VK V V' ∧ SK S S') ∨
    (∃ (V' S' : Nat → Int32) (x q' : Nat), x < fctN n ∧ f_X7_takeElement N r0 (cset h r0 g rl V B cz C T R X P Q) = some (nI 1, cset h r0 g rl V' B cz C T R X P Q) ∧ V' 8 = nI x ∧ f_X9_readElement N m (mset h2 m S B1 D (dI e) H J L U Z W) = some (nI (numN n x), mset h2 m S' B1 D (dI e) H J L U Z W) ∧ At b len V' S' q' ∧ q < q' ∧ V45 V V' ∧ SK S S' ∧ S' 6 = S 6) := by
  have hA0 := hA
  obtain ⟨hq, sq, tk, v12, ⟨pm, p1, p2, p3⟩, s3, s5⟩ := hA
  have hl := hT.1
  have tb := tk_bounds (b := b) hq
  have e1 : (nI 1 = nI 0) = False := eq_false (by decide)
  have e0 : (nI 0 = nI 0) = True := eq_true rfl
  by_cases hk : tkK b len q = 1
  · obtain ⟨S', n1, n2, n3, n4, n5⟩ := m_number_y (N := N) (h := h2) (m := m) (B := B1) (D := D) (E := dI e) (H := H) (J := J) (L := L) (U := U) (Z := Z) (W := W) (S := S) (p := pm) (lo := 0) (hi1 := 54322) (hi := nI 54321) (by omega) (by omega) (hi_m (by omega)) hT1 s3 p3 s5 p1 (by rw [p2]; exact hk)
    rw [p2] at n1 n3 n4 n5
    obtain ⟨y1, y2⟩ := x_elt_v (N := N) (h := h) (r0 := r0) (g := g) (rl := rl) (B := B) (cz := cz) (C := C) (R := R) (X := X) (P := P) (Q := Q) hNN hG hg hn h8 hT hA0 hk rfl
    by_cases hv : tkV b len q < 54322
    · obtain ⟨n6, n7, n8⟩ := n4 (Nat.zero_le _) hv
      have me := m_isElementI (N := N) (h := mset h2 m S' B1 D (dI e) H J L U Z W) (by omega) hn (nI (tkV b len q))
      cases ho : eltI n (nI (tkV b len q)) with
      | none =>
        rw [ho] at me
        replace me : f_X9_isElement N (nI (tkV b len q)) (nI n) (mset h2 m S' B1 D (dI e) H J L U Z W) = some (nI 0, mset h2 m S' B1 D (dI e) H J L U Z W) := me
        have r := m_report (N := N) (h := h2) (m := m) (B := B1) (D := D) (E := dI e) (H := H) (J := J) (L := L) (U := U) (Z := Z) (W := W) (S := S') (code := -nI 3) (off := q) n6 n7
        refine Or.inl ⟨_, mErr S' (tkE b len q) (-nI 3) q, tkV b len q, y1 ho, ?_, ?_, ?_, ?_, ?_, SK_tr n2 SK_err⟩
        · simp (disch := omega) only [f_X9_readElement, onO_ms, nlit, n1, m_good n7, e1, gA_ms, ldI_ms, dI_app, h0, me, e0, gI_ms, n3, r, ↓reduceIte, Option.bind_some]
        · unfold errV
          rw [upS_ne (by omega), upS_eq, mErr_5]
        · rw [mErr_5]; exact errs_ne.2.1
        · unfold errV mErr
          rw [upS_eq, upS_eq]
        · intro k k4 k5 k6 k7 k8 k12 k13
          unfold errV
          rw [upS_ne k13, upS_ne k12, upS_ne k8]
      | some x =>
        rw [ho] at me
        obtain ⟨x1, x2⟩ := eltI_some hn ho
        replace me : f_X9_isElement N (nI (tkV b len q)) (nI n) (mset h2 m S' B1 D (dI e) H J L U Z W) = some (nI 1, mset h2 m S' B1 D (dI e) H J L U Z W) := me
        obtain ⟨V', a1, a2, a3, a4⟩ := y2 x ho
        have hlt : q < len := (tkV_eq hk).1
        have htE := tb.2.2.2 hlt
        have q1le := skp_le (b := b) tb.2.1
        refine Or.inr ⟨V', S', x, skp b len (tkE b len q), x1, a1, a4, ?_, At_mk tb.2.1 a2 (by rw [a3 12 (by omega) (by omega) (by omega) (by omega) (by omega)]; exact v12) n6 (by rw [n2 3 (by omega) (by omega) (by omega) (by omega)]; exact s3) n7, by omega, a3, n2, n8⟩
        rw [← x2]
        simp (disch := omega) only [f_X9_readElement, onO_ms, nlit, n1, m_good n7, e1, gA_ms, ldI_ms, dI_app, h0, me, ↓reduceIte, Option.bind_some]
    · obtain ⟨n6, n7⟩ := n5 (Or.inr (by omega))
      have n8 : S' 5 ≠ nI 0 := by rw [n6]; exact errs_ne.2.1
      refine Or.inl ⟨_, S', tkV b len q, y1 (elt_big hn (by omega) (by omega)), ?_, ?_, n8, ?_, ?_, n2⟩
      · simp (disch := omega) only [f_X9_readElement, onO_ms, nlit, n1, m_bad n8, e0, ↓reduceIte, Option.bind_some]
      · unfold errV
        rw [upS_ne (by omega), upS_eq, n6]
      · unfold errV
        rw [upS_eq, n7]
      · intro k k4 k5 k6 k7 k8 k12 k13
        unfold errV
        rw [upS_ne k13, upS_ne k12, upS_ne k8]
  · have ms := m_number_s (N := N) (h := h2) (m := m) (B := B1) (D := D) (E := dI e) (H := H) (J := J) (L := L) (U := U) (Z := Z) (W := W) (S := S) (p := pm) (lo := nI 0) (hi := nI 54321) (by omega) hT1 s3 p3 s5 p1 (by rw [p2]; exact hk)
    rw [p2] at ms
    have n8 : mErr S q (-nI 2) q 5 ≠ nI 0 := by rw [mErr_5]; exact errs_ne.1
    refine Or.inl ⟨_, mErr S q (-nI 2) q, 0, x_elt_s hA0 hk, ?_, ?_, n8, ?_, VK_err, SK_err⟩
    · simp (disch := omega) only [f_X9_readElement, onO_ms, nlit, ms, m_bad n8, e0, ↓reduceIte, Option.bind_some]
    · unfold errV
      rw [upS_ne (by omega), upS_eq, mErr_5]
    · unfold errV mErr
      rw [upS_eq, upS_eq]
end M99994b

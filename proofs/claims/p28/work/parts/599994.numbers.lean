theorem SK_4' {S : Nat → Int32} {x : Int32} {k : Nat} (hk : k ≠ 4) : upd S 4 x k = S k := upS_ne hk
section M99994
variable {h h2 : zH} {r0 g m N : Nat} {V B C : Nat → Int32} {cz : Int32} {S B1 D E : Nat → Int32} {H : Nat → Nat → Int32} {J : Nat → Int64} {L U Z W : Nat → Int32} {b : Nat → Nat} {len q : Nat}
end M99994
section M99994b
variable {h h2 : zH} {r0 g rl m N : Nat} {V B C : Nat → Int32} {cz : Int32} {T R : Nat → Int32} {X : Nat → Nat → Int32} {P Q : Nat → Int32} {S B1 D E : Nat → Int32} {H : Nat → Nat → Int32} {J : Nat → Int64} {L U Z W : Nat → Int32} {b e : Nat → Nat} {len q : Nat}
theorem cs_g8 : gI (cset h r0 g rl V B cz C T R X P Q) (r0 + 4) 0 8 = some (T 8) := by
  rw [cs_comm]
  simp only [gI_a]
theorem cs_g9 : gI (cset h r0 g rl V B cz C T R X P Q) (r0 + 4) 0 9 = some (T 9) := by
  rw [cs_comm]
  simp only [gI_a]
theorem GrpAt_cs (hG : GrpAt h g) (hg : g + 2 < r0) : GrpAt (cset h r0 g rl V B cz C T R X P Q) g := GrpAt_sim hG (fun k hk => Or.inl (cs_out (by omega)))
/-- the class's element -/
theorem x_elt_s (hA : At b len V S q) (hk : tkK b len q ≠ 1) : f_X7_takeElement N r0 (cset h r0 g rl V B cz C T R X P Q) = some (nI 0, cset h r0 g rl (errV V (-nI 2) q) B cz C T R X P Q) := by
  obtain ⟨hq, sq, tk, v12, -, s3, s5⟩ := hA
  have k4 := tkK_lt b len q
  obtain ⟨t3, t5, t4, t6, t7⟩ := tk
  rw [sq] at t5 t4 t6 t7
  unfold cset
  simp (disch := omega) only [f_X7_takeElement, r_o7, rg_I, t4, t5, nlit, neqF, x_fail, zB_0', ↓reduceIte, Option.bind_some]
theorem x_elt_v {o : Option Nat} (hNN : 2000 < N) (hG : GrpAt h g) (hg : g + 2 < r0) {n : Nat} (hn : inN n) (h8 : T 8 = nI n) (hT : TxtB B b len) (hA : At b len V S q) (hk : tkK b len q = 1) (ho : eltI n (nI (tkV b len q)) = o) :
    (o = none → f_X7_takeElement N r0 (cset h r0 g rl V B cz C T R X P Q) = some (nI 0, cset h r0 g rl (errV (upd V 8 (-nI 1)) (-nI 3) q) B cz C T R X P Q)) ∧
    (∀ x, o = some x → ∃ V', f_X7_takeElement N r0 (cset h r0 g rl V B cz C T R X P Q) = some (nI 1, cset h r0 g rl V' B cz C T R X P Q) ∧ TokAt V' b len (tkE b len q) ∧ V45 V V' ∧ V' 8 = nI x) := by
  obtain ⟨hq, sq, tk, v12, -, s3, s5⟩ := hA
  have tb := tk_bounds (b := b) hq
  have k4 := tkK_lt b len q
  obtain ⟨t3, t5, t4, t6, t7⟩ := tk
  rw [sq] at t5 t4 t6 t7
  rw [hk] at t4
  have fr := x_fromNumber (N := N) (h := cset h r0 g rl V B cz C T R X P Q) (GrpAt_cs hG hg) (by omega) hn (nI (tkV b len q))
  have o2 : ∀ F : Option (Int32 × zH), onO 2 g (cset h r0 g rl V B cz C T R X P Q) F = F := fun F => onO_of' (GrpAt_cs hG hg).1
  have g8 := cs_g8 (h := h) (r0 := r0) (g := g) (rl := rl) (V := V) (B := B) (cz := cz) (C := C) (T := T) (R := R) (X := X) (P := P) (Q := Q)
  rw [h8] at g8
  rw [ho] at fr
  unfold cset at fr o2 g8 ⊢
  constructor
  · intro h0
    rw [h0] at fr
    have e1 : (-nI 1 = -nI 1) = True := eq_true rfl
    replace fr : f_X2_fromNumber N g (nI (tkV b len q)) (nI n) (rset (aset h (r0 + 4) g rl T R X P Q) r0 g V B cz C) = some (-nI 1, rset (aset h (r0 + 4) g rl T R X P Q) r0 g V B cz C) := fr
    simp (disch := omega) only [f_X7_takeElement, r_o7, rg_I, rg_A, t4, t5, t7, g8, fr, o2, nlit, neqT, rp_I, upS_eq, upS_ne, e1, x_fail, zB_0', ↓reduceIte, Option.bind_some]
  · intro x h0
    rw [h0] at fr ho
    replace fr : f_X2_fromNumber N g (nI (tkV b len q)) (nI n) (rset (aset h (r0 + 4) g rl T R X P Q) r0 g V B cz C) = some (nI x, rset (aset h (r0 + 4) g rl T R X P Q) r0 g V B cz C) := fr
    obtain ⟨y1, -⟩ := eltI_some hn ho
    have f9 := fct_le hn
    have e1 : (nI x = -nI 1) = False := eq_false (fun h9 => nI_pos (n := x) (by omega) (by rw [h9]; decide))
    obtain ⟨V', a1, a2, a3⟩ := x_advance (N := N) (h := aset h (r0 + 4) g rl T R X P Q) (q := r0) (g := g) (B := B) (cz := cz) (C := C) (V := upd V 8 (nI x)) (p := tkE b len q) (by omega) hT (by rw [upS_ne (by omega)]; exact t3) (by rw [upS_ne (by omega)]; exact t6) tb.2.1
    refine ⟨V', ?_, a2, fun k k4 k5 k6 k7 k8 => (a3 k k4 k5 k6 k7).trans (upS_ne k8), (a3 8 (by omega) (by omega) (by omega) (by omega)).trans (upS_eq _ _ _)⟩
    simp (disch := omega) only [f_X7_takeElement, r_o7, rg_I, rg_A, t4, t5, t7, g8, fr, o2, nlit, neqT, rp_I, upS_eq, upS_ne, e1, a1, ↓reduceIte, Option.bind_some]
end M99994b

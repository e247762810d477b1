def ruA (h : zH) (K : Nat) (C : Nat → Int32) : zH := hPut (hNew (hNew h (.inr (5, [.null, .null])) 2) (.inl (0, K, .inl (fun _ => nI 0))) K) (hS h + 1) (.inl (0, K, .inl (va_cpy C (fun _ => nI 0) 0 0 K)))
def ruB (h : zH) (K : Nat) (C : Nat → Int32) : zH := hPut (hNew (hPut (ruA h K C) (hS h) (.inr (5, [.ref (hS h + 1), .null]))) (.inl (1, 11, .inr (.inl (fun _ => 0)))) 11) (hS h) (.inr (5, [.ref (hS h + 1), .ref (hS h + 2)]))
theorem ruB_S (h : zH) (K : Nat) (C : Nat → Int32) : hS (ruB h K C) = hS h + 3 := rfl
theorem ruB_N (h : zH) (K : Nat) (C : Nat → Int32) : hN (ruB h K C) = hN h + 2 + K + 11 := rfl
theorem ruB_M {h : zH} {K : Nat} {C : Nat → Int32} {x : Nat} : hM (ruB h K C) x = if x = hS h then some (.inr (5, [.ref (hS h + 1), .ref (hS h + 2)])) else if x = hS h + 2 then some (.inl (1, 11, .inr (.inl (fun _ => 0)))) else if x = hS h + 1 then some (.inl (0, K, .inl (va_cpy C (fun _ => nI 0) 0 0 K))) else hM h x := by
  show (if x = hS h then _ else if x = hS h + 2 then _ else if x = hS h then _ else if x = hS h + 1 then _ else if x = hS h + 1 then _ else if x = hS h then _ else hM h x) = _
  by_cases h1 : x = hS h
  · rw [if_pos h1, if_pos h1]
  · by_cases h2 : x = hS h + 2
    · simp only [if_neg h1, if_pos h2]
    · by_cases h3 : x = hS h + 1
      · simp only [if_neg h1, if_neg h2, if_pos h3]
      · simp only [if_neg h1, if_neg h2, if_neg h3]
theorem LB_ruB {h : zH} {K : Nat} {C : Nat → Int32} (hK : K ≤ 700) : LB h (ruB h K C) := by
  refine ⟨fun x hx => ?_, by rw [ruB_S]; omega, by rw [ruB_S]; omega, by rw [ruB_N]; omega, by rw [ruB_N]; omega⟩
  rw [ruB_M, if_neg (by omega), if_neg (by omega), if_neg (by omega)]
theorem RuleAt_ruB {h : zH} {K : Nat} {C : Nat → Int32} {t : Nat → Nat} (hC : ∀ k, k < K → C k = clsC (t k)) : RuleAt (ruB h K C) (hS h) K t := by
  refine ⟨va_cpy C (fun _ => nI 0) 0 0 K, fun _ => 0, ?_, ?_, ?_, fun k hk => ?_⟩
  · rw [ruB_M, if_pos rfl]
  · rw [ruB_M, if_neg (by omega), if_neg (by omega), if_pos rfl]
  · rw [ruB_M, if_neg (by omega), if_pos rfl]
  · rw [va_cpy0, if_pos hk]
    exact hC k hk
section M99997c
variable {h : zH} {r0 g rl N : Nat} {V B C : Nat → Int32} {cz : Int32} {T R : Nat → Int32} {X : Nat → Nat → Int32} {P Q : Nat → Int32}
theorem cs_new {e : zE} {n : Nat} (hq : r0 + 39 ≤ hS h) : hNew (cset (h) r0 g rl V B cz C T R X P Q) e n = cset (hNew h e n) r0 g rl V B cz C T R X P Q := by
  unfold cset rset aset
  rw [new_rs (by show r0 + 4 ≤ hS h; omega), new_rs (by omega)]
theorem cs_put {e : zE} {q : Nat} (hq : q < r0 ∨ r0 + 39 ≤ q) : hPut (cset (h) r0 g rl V B cz C T R X P Q) q e = cset (hPut h q e) r0 g rl V B cz C T R X P Q := by
  unfold cset rset aset
  rw [put_rs (by omega), put_rs (by omega)]
theorem cs_nI {n : Nat} (hn : n ≤ 100000) (hq : r0 + 39 ≤ hS h) : nwI (cset (h) r0 g rl V B cz C T R X P Q) (nI n) = some (hS h, cset (hNew h (.inl (0, n, .inl (fun _ => nI 0))) n) r0 g rl V B cz C T R X P Q) := by
  unfold nwI
  rw [if_pos (nw_ok hn), nI_clamp (by omega), cs_new hq]
  rfl
theorem cs_nJ {n : Nat} (hn : n ≤ 100000) (hq : r0 + 39 ≤ hS h) : nwJ (cset (h) r0 g rl V B cz C T R X P Q) (nI n) = some (hS h, cset (hNew h (.inl (1, n, .inr (.inl (fun _ => 0)))) n) r0 g rl V B cz C T R X P Q) := by
  unfold nwJ
  rw [if_pos (nw_ok hn), nI_clamp (by omega), cs_new hq]
  rfl
theorem cs_toArray {K : Nat} (hcz : cz = nI K) (hK : K < 700) (hq : r0 + 39 ≤ hS h) : f_X6_toArray N (r0 + 2) (cset (h) r0 g rl V B cz C T R X P Q) = some (hS h, cset (hPut (hNew h (.inl (0, K, .inl (fun _ => nI 0))) K) (hS h) (.inl (0, K, .inl (va_cpy C (fun _ => nI 0) 0 0 K)))) r0 g rl V B cz C T R X P Q) := by
  subst hcz
  have g0 : gA (cset h r0 g rl V B (nI K) C T R X P Q) (r0 + 2) 6 0 = some (r0 + 3) := rg_A.2.2.2.2.1
  have g1 : gI (cset h r0 g rl V B (nI K) C T R X P Q) (r0 + 2) 6 1 = some (nI K) := rg_A.2.2.2.2.2
  have gl : ∀ h, aLen (cset h r0 g rl V B (nI K) C T R X P Q) (r0 + 3) = some (nI 700) := fun h => r_lenC
  have nw := cs_nI (h := h) (r0 := r0) (g := g) (rl := rl) (V := V) (B := B) (cz := nI K) (C := C) (T := T) (R := R) (X := X) (P := P) (Q := Q) (n := K) (by omega) hq
  have m0 : hM (cset (hNew h (.inl (0, K, .inl (fun _ => nI 0))) K) r0 g rl V B (nI K) C T R X P Q) (r0 + 3) = some (.inl (0, 700, .inl C)) := rs_3
  have m1 : hM (cset (hNew h (.inl (0, K, .inl (fun _ => nI 0))) K) r0 g rl V B (nI K) C T R X P Q) (hS h) = some (.inl (0, K, .inl (fun _ => nI 0))) := by
    rw [cs_out (by omega), hM_new, if_pos rfl]
  have cp := cpI_of' (s := K) m0 m1 (by omega) (Nat.le_refl _) (by omega)
  have ne : ¬ nI K = nI 700 := of_eq_false (neqF (by omega) (by omega) (by omega))
  unfold f_X6_toArray
  rw [g0, Option.bind_some, g1, Option.bind_some, Option.bind_some, gl, Option.bind_some, x_min (by omega) (by omega), Option.bind_some, Nat.min_eq_left (by omega)]
  dsimp only
  rw [show (0 : Int32) = nI 0 from rfl, x_max (by omega) (by omega), Option.bind_some, Nat.max_eq_right (by omega)]
  dsimp only
  unfold f_J7_copyOf_59c91
  rw [gl, Option.bind_some, if_neg ne, nw, Option.bind_some]
  dsimp only
  rw [gl, Option.bind_some, x_min (by omega) (by omega), Option.bind_some, Nat.min_eq_right (by omega)]
  dsimp only
  rw [show (0 : Int32) = nI 0 from rfl, cp, Option.bind_some, Option.bind_some, cs_put (by omega)]
theorem cs_init {q p : Nat} (hm : hM h q = some (.inr (5, [.null, .null]))) (hq : r0 + 39 ≤ q) (hS1 : q < hS h) : f_X5_init N q p (cset (h) r0 g rl V B cz C T R X P Q) = some (cset (hPut (hNew (hPut h q (.inr (5, [.ref p, .null]))) (.inl (1, 11, .inr (.inl (fun _ => 0)))) 11) q (.inr (5, [.ref p, .ref (hS h)]))) r0 g rl V B cz C T R X P Q) := by
  have p1 : pF (cset (h) r0 g rl V B cz C T R X P Q) q 5 0 (.ref p) = some (cset (hPut h q (.inr (5, [.ref p, .null]))) r0 g rl V B cz C T R X P Q) := by
    rw [pF_of' ((cs_out (by omega)).trans hm) (by show 0 < 2; omega), cs_put (by omega)]
    rfl
  have nw := cs_nJ (h := hPut h q (.inr (5, [.ref p, .null]))) (r0 := r0) (g := g) (rl := rl) (V := V) (B := B) (cz := cz) (C := C) (T := T) (R := R) (X := X) (P := P) (Q := Q) (n := 11) (by omega) (by rw [hS_put]; omega)
  have m2 : hM (hNew (hPut h q (.inr (5, [.ref p, .null]))) (.inl (1, 11, .inr (.inl (fun _ => 0)))) 11) q = some (.inr (5, [.ref p, .null])) := by
    rw [hM_new, if_neg (by rw [hS_put]; omega), hM_put, if_pos rfl]
  have p2 : pF (cset (hNew (hPut h q (.inr (5, [.ref p, .null]))) (.inl (1, 11, .inr (.inl (fun _ => 0)))) 11) r0 g rl V B cz C T R X P Q) q 5 1 (.ref (hS h)) = some (cset (hPut (hNew (hPut h q (.inr (5, [.ref p, .null]))) (.inl (1, 11, .inr (.inl (fun _ => 0)))) 11) q (.inr (5, [.ref p, .ref (hS h)]))) r0 g rl V B cz C T R X P Q) := by
    rw [pF_of' ((cs_out (by omega)).trans m2) (by show 1 < 2; omega), cs_put (by omega)]
    rfl
  unfold f_X5_init
  rw [p1, Option.bind_some, show (11 : Int32) = nI 11 from rfl, nw, Option.bind_some]
  dsimp only
  rw [hS_put, p2, Option.bind_some]
theorem cs_setRule {x : Nat} : f_X0_setRule N (r0 + 4) x (cset (h) r0 g rl V B cz C T R X P Q) = some (cset h r0 g x V B cz C T R X P Q) := by
  rw [cs_comm]
  unfold f_X0_setRule
  rw [pF_rl, Option.bind_some, cs_comm]
theorem cs_rule {K : Nat} (hcz : cz = nI K) (hK : K < 700) (hq : r0 + 39 ≤ hS h) : ((gA (cset (h) r0 g rl V B cz C T R X P Q) r0 7 9).bind fun x4 => (nwOb 5 [.null, .null] (cset (h) r0 g rl V B cz C T R X P Q)).bind fun y5 => (gA y5.2 r0 7 10).bind fun x6 => (onO 6 x6 y5.2 (f_X6_toArray N x6 y5.2)).bind fun y7 => (f_X5_init N y5.1 y7.1 y7.2).bind fun y8 => (onO 0 x4 y8 (f_X0_setRule N x4 y5.1 y8)).bind fun y9 => some ((1 : Int32), y9)) = some (nI 1, cset (ruB h K C) r0 g (hS h) V B cz C T R X P Q) := by
  have nw : nwOb 5 [.null, .null] (cset (h) r0 g rl V B cz C T R X P Q) = some (hS h, cset (hNew h (.inr (5, [.null, .null])) 2) r0 g rl V B cz C T R X P Q) := by
    unfold nwOb
    rw [cs_new hq]
    rfl
  have ga : gA (cset (hNew h (.inr (5, [.null, .null])) 2) r0 g rl V B cz C T R X P Q) r0 7 10 = some (r0 + 2) := rg_A.2.2.2.1
  have o6 : ∀ (β : Type) (G : Option β), onO 6 (r0 + 2) (cset (hNew h (.inr (5, [.null, .null])) 2) r0 g rl V B cz C T R X P Q) G = G := fun _ _ => r_o6
  have ta := cs_toArray (N := N) (h := hNew h (.inr (5, [.null, .null])) 2) (r0 := r0) (g := g) (rl := rl) (V := V) (B := B) (C := C) (T := T) (R := R) (X := X) (P := P) (Q := Q) hcz hK (by rw [hS_new]; omega)
  rw [hS_new] at ta
  have ta2 : f_X6_toArray N (r0 + 2) (cset (hNew h (.inr (5, [.null, .null])) 2) r0 g rl V B cz C T R X P Q) = some (hS h + 1, cset (ruA h K C) r0 g rl V B cz C T R X P Q) := ta
  have m5 : hM (ruA h K C) (hS h) = some (.inr (5, [.null, .null])) := by
    unfold ruA
    rw [hM_put, if_neg (by omega), hM_new, if_neg (by rw [hS_new]; omega), hM_new, if_pos rfl]
  have ini := cs_init (N := N) (h := ruA h K C) (r0 := r0) (g := g) (rl := rl) (V := V) (B := B) (cz := cz) (C := C) (T := T) (R := R) (X := X) (P := P) (Q := Q) (p := hS h + 1) m5 hq (show hS h < hS h + 2 by omega)
  have ini2 : f_X5_init N (hS h) (hS h + 1) (cset (ruA h K C) r0 g rl V B cz C T R X P Q) = some (cset (ruB h K C) r0 g rl V B cz C T R X P Q) := ini
  rw [cs_gA9, Option.bind_some, nw, Option.bind_some]
  dsimp only
  rw [ga, Option.bind_some, o6, ta2, Option.bind_some]
  dsimp only
  rw [ini2, Option.bind_some, cs_o0, cs_setRule, Option.bind_some]
  rfl
end M99997c
theorem TokAt_11 {b : Nat → Nat} {len p : Nat} {V : Nat → Int32} {x : Int32} (h : TokAt V b len p) : TokAt (upd V 11 x) b len p := by
  obtain ⟨t3, t5, t4, t6, t7⟩ := h
  exact ⟨(upS_ne (by omega)).trans t3, (upS_ne (by omega)).trans t5, (upS_ne (by omega)).trans t4, (upS_ne (by omega)).trans t6, (upS_ne (by omega)).trans t7⟩
theorem At_11 {b : Nat → Nat} {len q : Nat} {V S : Nat → Int32} {x : Int32} (h : At b len V S q) : At b len (upd V 11 x) S q := by
  obtain ⟨hq, sq, tk, v12, hh⟩ := h
  exact ⟨hq, sq, TokAt_11 tk, (upS_ne (by omega)).trans v12, hh⟩
theorem At_14 {b : Nat → Nat} {len q : Nat} {V S : Nat → Int32} {x : Int32} (h : At b len V S q) : At b len V (upd S 14 x) q := by
  obtain ⟨hq, sq, tk, v12, ⟨pm, p1, p2, p3⟩, s3, s5⟩ := h
  exact ⟨hq, sq, tk, v12, ⟨pm, p1, p2, (upS_ne (by omega)).trans p3⟩, (upS_ne (by omega)).trans s3, (upS_ne (by omega)).trans s5⟩
section M99997a
variable {N r : Nat} {X Y Z A F : zH}
theorem cpr_0 (o : Oh 7 r A) (oy : Oh 7 r Y) (p : pF X r 7 11 (.int (nI 1)) = some A) (ad : f_X7_advance N r A = some Y) (ts : f_X7_takeSumN N 8 r (nI 0) Y = some (nI 0, Z)) : f_X7_takePrice N r X = some (nI 0, Z) := by
  unfold f_X7_takePrice
  rw [show (1 : Int32) = nI 1 from rfl, p, Option.bind_some, o, ad, Option.bind_some, oy, show (0 : Int32) = nI 0 from rfl, ts, Option.bind_some, if_pos (show (nI 0, Z).1 = nI 0 from rfl)]
theorem cpr_1 {w : Option (Int32 × zH)} (o : Oh 7 r A) (oy : Oh 7 r Y) (p : pF X r 7 11 (.int (nI 1)) = some A) (ad : f_X7_advance N r A = some Y) (ts : f_X7_takeSumN N 8 r (nI 0) Y = some (nI 1, Z)) (hw : ((gA Z r 7 9).bind fun x4 => (nwOb 5 [.null, .null] Z).bind fun y5 => (gA y5.2 r 7 10).bind fun x6 => (onO 6 x6 y5.2 (f_X6_toArray N x6 y5.2)).bind fun y7 => (f_X5_init N y5.1 y7.1 y7.2).bind fun y8 => (onO 0 x4 y8 (f_X0_setRule N x4 y5.1 y8)).bind fun y9 => some ((1 : Int32), y9)) = w) : f_X7_takePrice N r X = w := by
  unfold f_X7_takePrice
  rw [show (1 : Int32) = nI 1 from rfl, p, Option.bind_some, o, ad, Option.bind_some, oy, show (0 : Int32) = nI 0 from rfl, ts, Option.bind_some, if_neg (show ¬ (nI 1, Z).1 = nI 0 from i1ne)]
  exact hw
end M99997a
section M99997
variable {h h0 h2 : zH} {b0 rl m N : Nat} {V B C : Nat → Int32} {cz : Int32} {T R : Nat → Int32} {X : Nat → Nat → Int32} {P Q : Nat → Int32} {S S0 B1 D : Nat → Int32} {H : Nat → Nat → Int32} {J : Nat → Int64} {L U Z W : Nat → Int32} {b e t : Nat → Nat} {len q hp K : Nat}
end M99997

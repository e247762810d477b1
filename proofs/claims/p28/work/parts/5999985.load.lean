section M999985a
variable {N m r a b0 : Nat} {X X1 X2 X3 X4 X5 X6 X7 X8 X9 XA Y Z A F G : zH} {v w x x1 sz ln : Int32}
theorem crd {c : Nat} (ga : gA X r 7 9 = some a) (o0 : Oh 0 a X) (st : f_X0_start N a X = some X1) (g2 : gI X1 r 7 2 = some sz) (mi : f_J9_min_7cf53 N x sz X1 = some (x1, X1)) (ma : f_J9_max_7cf53 N (nI 0) x1 X1 = some (ln, X1)) (p3 : pF X1 r 7 3 (.int ln) = some X2) (p2 : pF X2 r 7 2 (.int (nI 0)) = some X3) (p6 : pF X3 r 7 6 (.int (nI 0)) = some X4) (gc : gA X4 r 7 10 = some c) (o6 : Oh 6 c X4) (cl : f_X6_clear N c X4 = some X5) (p11 : pF X5 r 7 11 (.int (nI 0)) = some X6) (p12 : pF X6 r 7 12 (.int (nI 0)) = some X7) (p13 : pF X7 r 7 13 (.int (-nI 1)) = some X8) (o8 : Oh 7 r X8) (ad : f_X7_advance N r X8 = some X9) (o9' : Oh 7 r X9) (tg : f_X7_takeGroup N r X9 = some (v, XA)) : f_X7_read N r x X = if v = 0 then (gI XA r 7 12).bind fun x16 => some (x16, XA) else f_X7_read_l68 N r N (0 : Int32) XA := by
  unfold f_X7_read
  rw [ga, Option.bind_some, o0, st, Option.bind_some, g2, Option.bind_some, mi, Option.bind_some]
  dsimp only
  rw [show (0 : Int32) = nI 0 from rfl, ma, Option.bind_some]
  dsimp only
  rw [p3, Option.bind_some, p2, Option.bind_some, p6, Option.bind_some, gc, Option.bind_some, o6, cl, Option.bind_some, p11, Option.bind_some, p12, Option.bind_some, show (-1 : Int32) = -nI 1 from rfl, p13, Option.bind_some, o8, ad, Option.bind_some, o9', tg, Option.bind_some]
theorem cld_n1 (hx : x < 0) : f_X8_load N b0 x X = some (.inr 1, zthr 1 X) := by
  unfold f_X8_load
  rw [if_pos hx]
theorem cld_n2 (hx : ¬ x < 0) (g1 : gA X b0 8 1 = some r) (o7 : Oh 7 r X) (g2 : gI X r 7 2 = some sz) (hle : ¬ x ≤ sz) : f_X8_load N b0 x X = some (.inr 1, zthr 1 X) := by
  unfold f_X8_load
  rw [if_neg hx, g1, Option.bind_some, o7]
  unfold f_X7_textLength
  rw [g2, Option.bind_some, Option.bind_some, if_neg hle]
theorem cld_f (hx : ¬ x < 0) (g1 : gA X b0 8 1 = some r) (o7 : Oh 7 r X) (g2 : gI X r 7 2 = some sz) (hle : x ≤ sz) (rd : f_X7_read N r x X = some (v, Y)) (g1' : gA Y b0 8 1 = some r) (o7' : Oh 7 r Y) (g13 : gI Y r 7 13 = some w) (p5 : pF Y b0 8 5 (.int w) = some Z) (hv : ¬ v = nI 0) : f_X8_load N b0 x X = some (.inl v, Z) := by
  unfold f_X8_load
  rw [if_neg hx, g1, Option.bind_some, o7]
  unfold f_X7_textLength
  rw [g2, Option.bind_some, Option.bind_some, if_pos hle]
  dsimp only
  rw [g1, Option.bind_some, o7, rd, Option.bind_some]
  dsimp only
  rw [g1', Option.bind_some, o7']
  unfold f_X7_errorPlace
  rw [g13, Option.bind_some, Option.bind_some]
  dsimp only
  rw [p5, Option.bind_some, if_neg (show ¬ v = (0 : Int32) from hv)]
theorem cld_y {h3 hn tg : Nat} (hx : ¬ x < 0) (g1 : gA X b0 8 1 = some r) (o7 : Oh 7 r X) (g2 : gI X r 7 2 = some sz) (hle : x ≤ sz) (rd : f_X7_read N r x X = some (nI 0, Y)) (g1' : gA Y b0 8 1 = some r) (o7' : Oh 7 r Y) (g13 : gI Y r 7 13 = some w) (p5 : pF Y b0 8 5 (.int w) = some Z) (z3 : gA Z b0 8 3 = some h3) (z2 : gA Z b0 8 2 = some hn) (o4 : Oh 4 h3 Z) (re : f_X4_remember N h3 hn Z = some A) (a2 : gA A b0 8 2 = some hn) (a1 : gA A b0 8 1 = some r) (o7'' : Oh 7 r A) (a9 : gA A r 7 9 = some tg) (o0 : Oh 0 hn A) (cp : f_X0_copyFrom N hn tg A = some F) (f2 : gA F b0 8 2 = some hn) (f9 : gI F hn 0 9 = some v) : f_X8_load N b0 x X = some (.inl v, F) := by
  unfold f_X8_load
  rw [if_neg hx, g1, Option.bind_some, o7]
  unfold f_X7_textLength
  rw [g2, Option.bind_some, Option.bind_some, if_pos hle]
  dsimp only
  rw [g1, Option.bind_some, o7, rd, Option.bind_some]
  dsimp only
  rw [g1', Option.bind_some, o7']
  unfold f_X7_errorPlace
  rw [g13, Option.bind_some, Option.bind_some]
  dsimp only
  rw [p5, Option.bind_some, if_pos (show nI 0 = (0 : Int32) from rfl), z3, Option.bind_some, z2, Option.bind_some, o4, re, Option.bind_some, a2, Option.bind_some, a1, Option.bind_some, o7'']
  unfold f_X7_result
  rw [a9, Option.bind_some, Option.bind_some]
  dsimp only
  rw [o0, cp, Option.bind_some, f2, Option.bind_some, f9, Option.bind_some]
end M999985a
section M999985
variable {h h0 h2 : zH} {b0 rl m N : Nat} {V B C : Nat → Int32} {cz : Int32} {T R : Nat → Int32} {X : Nat → Nat → Int32} {P Q : Nat → Int32} {S S0 B1 D E : Nat → Int32} {H : Nat → Nat → Int32} {J : Nat → Int64} {L U Z W : Nat → Int32} {b e t : Nat → Nat} {len q hp K z : Nat}
def cpN (e d : Nat → Nat) : Nat → Nat := fun j => if j < 1378 then e j else d j
theorem cpI_dI (e d : Nat → Nat) : cpyI (dI e) (dI d) = dI (cpN e d) := by
  funext j
  show (if j < 1378 then nI (e j) else nI (d j)) = nI (if j < 1378 then e j else d j)
  split <;> rfl
theorem cpN_lo {e d : Nat → Nat} : ∀ j, j < 1378 → cpN e d j = e j := fun j hj => if_pos hj
theorem Sld_s (S : Nat → Int32) (len : Nat) : Sld S len 3 = nI len ∧ Sld S len 4 = nI 0 ∧ Sld S len 5 = nI 0 ∧ Sld S len 6 = -nI 1 ∧ Sld S len 13 = nI 0 ∧ Sld S len 14 = nI 0 := by
  unfold Sld
  refine ⟨?_, ?_, ?_, ?_, ?_, ?_⟩ <;> simp (disch := omega) only [upS_ne, upS_eq]
theorem Sld_k (S : Nat → Int32) (len : Nat) : Sld S len 0 = nI 0 ∧ Sld S len 2 = nI 0 ∧ Sld S len 11 = S 11 ∧ Sld S len 19 = S 19 ∧ Sld S len 20 = S 20 := by
  unfold Sld
  refine ⟨?_, ?_, ?_, ?_, ?_⟩ <;> simp (disch := omega) only [upS_ne, upS_eq]
end M999985
section M999985w
variable {h h' k : zH} {b0 rl N K q z len : Nat} {V C : Nat → Int32} {cz : Int32} {T R : Nat → Int32} {X : Nat → Nat → Int32} {P Q : Nat → Int32} {ea ea' : Int32} {d : Nat → Nat} {t : Nat → Nat} {hd : Nat → Nat → Nat} {hK : Nat → Nat} {ht : Nat → Nat → Nat} {B : Nat → Int32}
theorem gob_out {x : Nat} (hb : b0 + 395 ≤ hS h) (hB : LB h h') (hx : b0 + 43 ≤ x ∨ (b0 < x ∧ x < b0 + 4)) (hx2 : x < hS h) : hM (hPut (cset (h') (b0 + 4) (b0 + 1) (rl) (V) B (cz) (C) (T) (R) (X) (P) (Q)) b0 (.inr (8, [.ref (b0 + 1), .ref (b0 + 4), .ref (b0 + 46), .ref (b0 + 84), .ref (b0 + 390), .int ea']))) x = hM h x := by
  rw [hM_put, if_neg (by omega), cs_out (by omega), hB.1 x hx2]
theorem WC_ld (hW : WC b0 h (d, K, t, (q, hd, hK, ht), ea, z, B)) (hB : LB h h') (hV : V 2 = nI 0) (hO : RowOK R) : WC b0 (hPut (cset (h') (b0 + 4) (b0 + 1) (rl) (V) B (cz) (C) (T) (R) (X) (P) (Q)) b0 (.inr (8, [.ref (b0 + 1), .ref (b0 + 4), .ref (b0 + 46), .ref (b0 + 84), .ref (b0 + 390), .int ea']))) (d, K, t, (q, hd, hK, ht), ea', 0, B) := by
  obtain ⟨⟨⟨w1, w2, w3⟩, w4, w5, w6, w7, w8⟩, ⟨a1, a2, a3⟩, w9, w10⟩ := hW
  have fr : ∀ x, (b0 + 43 ≤ x ∨ (b0 < x ∧ x < b0 + 4)) → x < hS h → hM (hPut (cset (h') (b0 + 4) (b0 + 1) (rl) (V) B (cz) (C) (T) (R) (X) (P) (Q)) b0 (.inr (8, [.ref (b0 + 1), .ref (b0 + 4), .ref (b0 + 46), .ref (b0 + 84), .ref (b0 + 390), .int ea']))) x = hM h x := fun x hx hx2 => gob_out w3 hB hx hx2
  have hS1 : hS h ≤ hS (hPut (cset (h') (b0 + 4) (b0 + 1) (rl) (V) B (cz) (C) (T) (R) (X) (P) (Q)) b0 (.inr (8, [.ref (b0 + 1), .ref (b0 + 4), .ref (b0 + 46), .ref (b0 + 84), .ref (b0 + 390), .int ea']))) := hB.2.1
  have rr : ∀ rl' k, RAd b0 h rl' → k < 3 → simc h (hPut (cset (h') (b0 + 4) (b0 + 1) (rl) (V) B (cz) (C) (T) (R) (X) (P) (Q)) b0 (.inr (8, [.ref (b0 + 1), .ref (b0 + 4), .ref (b0 + 46), .ref (b0 + 84), .ref (b0 + 390), .int ea']))) (rl' + k) := by
    intro rl' k hr hk
    have h1 := RAd_ge hr
    have h2 := hr.1
    exact Or.inl (fr _ (by omega) (by omega))
  refine ⟨⟨⟨?_, GrpAt_sim w2 (fun k hk => Or.inl (fr _ (by omega) (by omega))), by omega⟩, ?_, HanAt_sim w5 (fun x _ _ => Or.inl (fr x (by omega) (by omega))), ?_, RuleAt_sim w7 (fun k hk => Or.inl (fr _ (by omega) (by omega))), Nat.zero_le _, fun k hk => absurd hk (Nat.not_lt_zero k)⟩, ⟨AucAt_sim a1 hS1 (fun x _ _ => Or.inl (fr x (by omega) (by omega))) rr, a2, a3⟩, HisAt_sim w9 hS1 (fun x _ _ => Or.inl (fr x (by omega) (by omega))) rr, w10⟩
  · rw [hM_put, if_pos rfl]
  · unfold cset rset
    rw [put_rs (by omega)]
    exact RdrAt_rs hV
  · refine ⟨rl, T, R, X, P, Q, ?_, hO⟩
    rw [cs_comm]
    unfold aset
    rw [put_rs (by omega)]
    exact as_as
theorem AucAt_tg {e : Nat → Nat} {hp : Nat} (hW : WC b0 h (d, K, t, (q, hd, hK, ht), ea, z, B)) {K' : Nat} {t' : Nat → Nat} (hL : LRul b0 h h' hp rl e K' t') (hD : LD e) (hR : AucR e T R X P Q) (hO : RowOK R) : ∃ (K1 : Nat) (t1 : Nat → Nat), AucAt b0 (hPut (cset (h') (b0 + 4) (b0 + 1) (rl) (V) B (cz) (C) (T) (R) (X) (P) (Q)) b0 (.inr (8, [.ref (b0 + 1), .ref (b0 + 4), .ref (b0 + 46), .ref (b0 + 84), .ref (b0 + 390), .int ea']))) (b0 + 8) e K1 t1 ∧ CodeR e K1 t1 := by
  obtain ⟨⟨⟨w1, w2, w3⟩, w4, w5, w6, w7, w8⟩, -⟩ := hW
  have self : aset (hPut (cset (h') (b0 + 4) (b0 + 1) (rl) (V) B (cz) (C) (T) (R) (X) (P) (Q)) b0 (.inr (8, [.ref (b0 + 1), .ref (b0 + 4), .ref (b0 + 46), .ref (b0 + 84), .ref (b0 + 390), .int ea']))) (b0 + 8) (b0 + 1) rl T R X P Q = hPut (cset (h') (b0 + 4) (b0 + 1) (rl) (V) B (cz) (C) (T) (R) (X) (P) (Q)) b0 (.inr (8, [.ref (b0 + 1), .ref (b0 + 4), .ref (b0 + 46), .ref (b0 + 84), .ref (b0 + 390), .int ea'])) := by
    rw [cs_comm]
    unfold aset
    rw [put_rs (by omega)]
    exact as_as
  have hB := LB_rul hL
  rcases hL with ⟨l1, l2, l3, l4⟩ | ⟨l1, l2, l3, l4, l5, l6, l7, l8, l9, l10⟩
  · refine ⟨1, fun _ => 10000, ⟨rl, T, R, X, P, Q, self, hR, hO, ?_, ?_, Or.inl ⟨0, by omega, by omega⟩⟩, CodeR_0.1, CodeR_0.2.1, CodeR_0.2.2.1, Or.inl ⟨rfl, rfl, l4⟩⟩
    · rw [l3]
      exact RuleAt_sim w7 (fun k hk => Or.inl (gob_out w3 hB (by omega) (by omega)))
    · show rl + 2 < hS h'
      have := hB.2.1
      omega
  · refine ⟨K', t', ⟨rl, T, R, X, P, Q, self, hR, hO, ?_, ?_, Or.inr (Or.inr (by omega))⟩, l8, ⟨l9, l10⟩, l7, Or.inr l6⟩
    · exact RuleAt_congr l5 (fun k hk => by rw [hM_put, if_neg (by omega), cs_out (by omega)])
    · show rl + 2 < hS h'
      omega
theorem WC_fra' {d' : Nat → Nat} {K' : Nat} {t' : Nat → Nat} (hW : WC b0 h (d, K, t, (q, hd, hK, ht), ea, z, B)) (hf : FrA b0 h h') (hA : AucAt b0 h' (b0 + 46) d' K' t') (hD : GoodD d') (hC : CodeR d' K' t') : WC b0 h' (d', K', t', (q, hd, hK, ht), ea, z, B) := by
  obtain ⟨h1, h2, h3, h4⟩ := hW
  have hS1 : hS h ≤ hS h' := Nat.le_of_eq hf.2.1.symm
  exact ⟨BaseAt_sim h1 hS1 (fun x hx => hf.1 x (by omega)), ⟨hA, hD, hC⟩, HisAt_sim h3 hS1 (fun x _ _ => hf.1 x (by omega)) (fun rl k hr hk => hf.1 _ (RAd_now hr hk)), h4⟩
theorem TxtB_of (hz : len ≤ 700) (hb : ∀ k, k < len → ∃ v, v < 256 ∧ B k = nI v) : TxtB B (fun k => ux (B k)) len := by
  refine ⟨hz, fun k hk => ?_⟩
  obtain ⟨v, hv, e⟩ := hb k hk
  refine ⟨?_, (nI_ux _).symm⟩
  show ux (B k) < 256
  rw [e, ux_nI (by omega)]
  exact hv
end M999985w

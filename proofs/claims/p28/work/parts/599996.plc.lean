section M99996
variable {h h0 h2 : zH} {b0 rl m N : Nat} {V B C : Nat → Int32} {cz : Int32} {T R : Nat → Int32} {X : Nat → Nat → Int32} {P Q : Nat → Int32} {S S0 B1 D : Nat → Int32} {H : Nat → Nat → Int32} {J : Nat → Int64} {L U Z W : Nat → Int32} {b e t : Nat → Nat} {len q hp K : Nat}
theorem wordA {i : Nat} (hNN : 2000 < N) (hT : TxtB B b len) (hA : At b len V S q) (hi : i < 9) (hw : wdAt b len q i) : ∃ V' q', f_X7_advance N (b0 + 4) (cset h (b0 + 4) (b0 + 1) rl V B cz C T R X P Q) = some (cset h (b0 + 4) (b0 + 1) (rl) (V') B (cz) (C) (T) (R) (X) (P) (Q)) ∧ At b len V' (upd S 4 (nI (q + wdL i))) q' ∧ q < q' ∧ V45 V V' := by
  obtain ⟨hq, sq, tk, v12, ⟨pm, p1, p2, p3⟩, s3, s5⟩ := hA
  obtain ⟨u1, u2, u3⟩ := (wdAt_iff hi hq).mp hw
  obtain ⟨l1, l2, l3⟩ := wd_ln hi
  have wle := hw.1
  obtain ⟨t3, t5, t4, t6, t7⟩ := tk
  rw [sq, u2] at t6
  obtain ⟨V', x1, x2, x3⟩ := x_advance (N := N) (h := aset h (b0 + 4 + 4) (b0 + 1) rl T R X P Q) (q := b0 + 4) (g := b0 + 1) (B := B) (V := V) (cz := cz) (C := C) (p := q + wdL i) (by omega) hT t3 t6 wle
  have q1le := skp_le (b := b) wle
  exact ⟨V', skp b len (q + wdL i), x1, At_mk wle x2 (by rw [x3 12 (by omega) (by omega) (by omega) (by omega)]; exact v12) (upS_eq _ _ _) (by rw [upS_ne (by omega)]; exact s3) (by rw [upS_ne (by omega)]; exact s5), by omega, fun k k4 k5 k6 k7 _ => x3 k k4 k5 k6 k7⟩
theorem GoodL_mk {V' S' T' R' : Nat → Int32} {X' : Nat → Nat → Int32} {P' Q' : Nat → Int32} {e' : Nat → Nat} {q' : Nat} (hA' : At b len V' S' q') (hS : S 13 = nI 0 ∧ S 6 = -nI 1 ∧ S 14 = nI hp) (hV : V 2 = nI 0 ∧ V 11 = nI hp ∧ V 13 = -nI 1) (hcz : hp = 0 → cz = nI 0) (h1 : V45 V V') (h2 : SK S S') (h3 : S' 6 = S 6) (hd : LD e') (hr : AucR e' T' R' X' P' Q') (ho : RowOK R') (hl : LRul b0 h0 h hp rl e' K t) (hk : SKL S0 S) : GoodL b0 h0 B b len S0 (cset h (b0 + 4) (b0 + 1) (rl) (V') B (cz) (C) (T') (R') (X') (P') (Q')) S' e' q' :=
  ⟨h, rl, V', cz, C, T', R', X', P', Q', hp, K, t, rfl, hA', ⟨(h2 13 (by omega) (by omega) (by omega) (by omega)).trans hS.1, h3.trans hS.2.1, (h2 14 (by omega) (by omega) (by omega) (by omega)).trans hS.2.2⟩, ⟨(h1 2 (by omega) (by omega) (by omega) (by omega) (by omega)).trans hV.1, (h1 11 (by omega) (by omega) (by omega) (by omega) (by omega)).trans hV.2.1, (h1 13 (by omega) (by omega) (by omega) (by omega) (by omega)).trans hV.2.2⟩, hcz, ⟨hd, hr, ho⟩, hl, SKL_tr hk (SKL_k h2)⟩
end M99996

section M9992m
variable {h : zH} {m N : Nat} {S B E : Nat → Int32} {H : Nat → Nat → Int32} {J : Nat → Int64} {L U Z W : Nat → Int32} {d : Nat → Nat}
end M9992m
section M9992
variable {h h' h1 : zH} {b0 K N q z : Nat} {ea : Int32} {d : Nat → Nat} {t : Nat → Nat} {hd : Nat → Nat → Nat} {hK : Nat → Nat} {ht : Nat → Nat → Nat} {B : Nat → Int32}
def prodD (d : Nat → Nat) : Nat := prodF (bidE d) (d 5) 0 0
theorem prodD_in (hD : GoodD d) : prodD d < fctN (d 0) := by
  obtain ⟨⟨g0, g1, g2, g3, g4, g5, g7⟩, gb, gl, gp, gm⟩ := hD
  exact prodF_in g0 (bidE d) (d 5) 0 0 (Nat.lt_trans Nat.zero_lt_one (fct_pos g0)) (fun j _ hj => (isN_idx g0 (gb j (by omega)).2.1).1)
theorem w_winning (hNN : 1000 < N) (hG : GrpAt h (b0 + 1)) (hD : GoodD d) (hA : AucAt b0 h (b0 + 46) d K t) : f_X0_winningElement N (b0 + 46) h = some (nI (invN (prodD d)), h) := by
  have hP := prodD_in hD
  have f8 := fct_le hD.1.1
  have k1 := w_prod (N := N) (s := 0) (by omega) hG hD hA (Nat.zero_le (d 5)) (Nat.le_refl _)
  rw [Nat.sub_zero] at k1
  replace k1 : f_X0_productOfBids N (b0 + 46) (nI 0) (nI (d 5)) h = some (nI (prodD d), h) := k1
  have k2 := w_size_31 (N := N) hD hA
  have k3 := x_opposite (N := N) hG (by omega) (show prodD d < 120 by omega)
  have kA := w_A hD hA
  have k0 : gA h (b0 + 46) 0 0 = some (b0 + 1) := by
    obtain ⟨rl, T, R, X, P, Q, ea, -⟩ := hA
    have k := (gA_a (h := h) (a := b0 + 46) (g := b0 + 1) (rl := rl) (T := T) (R := R) (X := X) (P := P) (Q := Q)).1
    rw [ea] at k
    exact k
  simp only [f_X0_winningElement, k0, kA, w_o6 hA isR_31, k2, w_o0 hA, nlit, k1, w_o2 hG, k3, Option.bind_some]
end M9992

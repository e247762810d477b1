/-! ===== whole expressions ===== -/
section M73
variable {h : zH} {b0 rl N : Nat} {V0 B : Nat → Int32} {T R : Nat → Int32} {X : Nat → Nat → Int32} {P Q : Nat → Int32} {b t : Nat → Nat} {len q K : Nat} {k : zH}
theorem Fol_c {c : Nat} (hq : q < len ∧ b q = c) (hc : isDg c = false ∧ isLt c = false) : Fol b len q := ⟨hq.1, by rw [hq.2]; exact hc.1, by rw [hq.2]; exact hc.2⟩
/-- a sum's body -/
theorem Sum_bod {m n o : Nat} {Cl Cr : List Nat} {Xl Xr : Nat → List Nat} (hNN : 2000 < N) (hT : TxtB B b len) (ho : o < 2) (hl : SumC N b0 h rl B T R X P Q b len t V0 m n (Xl 1) Cl) (hr : TerC N b0 h rl B T R X P Q b len t V0 m n (Xr 2) Cr) (hx : ∃ Cx, NodeX n Cx Xr) : SumC N b0 h rl B T R X P Q b len t V0 m n (Xl 1 ++ opX o ++ Xr 2) (Cl ++ Cr ++ [10004 + o]) := by
  intro dep q K k s1 s2 n1 n2 s3 s4 s5 s6
  obtain ⟨Cx, hx⟩ := hx
  obtain ⟨s11, s12⟩ := SegAt_app s1
  obtain ⟨s13, s14⟩ := SegAt_app s11
  obtain ⟨c1, c2⟩ := CodAt_app s3
  obtain ⟨c3, c4⟩ := CodAt_app c1
  have hlen : q + (Xl 1 ++ opX o ++ Xr 2).length = q + (Xl 1 ++ opX o).length + (Xr 2).length := by rw [List.length_append]; omega
  have hlen1 : q + (Xl 1 ++ opX o).length = q + (Xl 1).length + (opX o).length := by rw [List.length_append]; omega
  have hC1 : (Cl ++ Cr ++ [10004 + o]).length = Cl.length + Cr.length + 1 := by rw [List.length_append, List.length_append]; rfl
  have hC2 : (Cl ++ Cr).length = Cl.length + Cr.length := List.length_append
  rw [hC1] at s4
  rw [hlen] at s2 n1 n2 ⊢
  rw [hlen1] at s12 s2 n1 n2 ⊢
  generalize hq1 : q + (Xl 1).length = q1 at s12 s14 s2 n1 n2 ⊢
  have hop : t (K + (Cl ++ Cr).length) = 10004 + o := c2 0 Nat.one_pos
  rw [hC2] at hop
  rcases (show o = 0 ∨ o = 1 by omega) with rfl | rfl
  · obtain ⟨w1, -⟩ := SegAt_cons s14
    have sq1 : skp b len q1 = q1 := skp_nb w1.1 (by rw [w1.2]; omega)
    obtain ⟨k1, i, hi, f1, p1⟩ := hl dep q K k s13 (by rw [hq1]; exact Fol_c w1 ⟨rfl, rfl⟩) (by rw [hq1, sq1]; exact sg_no w1.2 (by omega)) (by rw [hq1, sq1]; exact sg_no w1.2 (by omega)) c3 (by omega) s5 s6
    rw [hq1, sq1] at p1
    obtain ⟨k2, a1, a2⟩ := PK_adv (N := N) hNN hT p1 (c := 43) w1 ⟨rfl, rfl⟩
    have lo : (opX 0).length = 1 := rfl
    rw [lo] at s12 s2 n1 n2 ⊢
    rw [nodeX_nb hx s12] at a2
    obtain ⟨k3, j, hj, g1, g2⟩ := hr dep (q1 + 1) (K + Cl.length) k2 s12 s2 c4 (by omega) s5 a2
    have g3 := g1.trans (ter_end hNN hT g2 (by omega) n1 n2)
    obtain ⟨k4, u1, u2⟩ := PK_push (N := N) (x := -nI 5) g2 (by omega) (show t (K + Cl.length + Cr.length) = 10004 + 0 by rw [Nat.add_assoc]; exact hop) rfl
    refine ⟨k4, i + 1, by rw [hC1]; omega, ?_, by rw [hC1, show K + (Cl.length + Cr.length + 1) = K + Cl.length + Cr.length + 1 by omega]; exact u2⟩
    rw [f1]
    obtain ⟨f, hf⟩ : ∃ f, N - i = f + 1 := ⟨N - i - 1, by omega⟩
    rw [hf, show N - (i + 1) = f by omega]
    exact ts_c1 (PK_7 p1) (PK_7 a2) (by omega) ((PK_sign hT p1 ⟨rfl, rfl⟩ (by omega)).1 w1) a1 g3 (PK_10 g2).1 (PK_10 g2).2 u1
  · obtain ⟨w1, s15⟩ := SegAt_cons s14
    obtain ⟨w2, s16⟩ := SegAt_cons s15
    obtain ⟨w3, -⟩ := SegAt_cons s16
    have sq2 : skp b len (q1 + 1) = q1 + 1 := skp_nb w2.1 (by rw [w2.2]; omega)
    have sq1 : skp b len q1 = q1 + 1 := (skp_b w1.1 w1.2).trans sq2
    obtain ⟨k1, i, hi, f1, p1⟩ := hl dep q K k s13 (by rw [hq1]; exact Fol_c w1 ⟨rfl, rfl⟩) (by rw [hq1, sq1]; exact sg_no w2.2 (by omega)) (by rw [hq1, sq1]; exact sg_no w2.2 (by omega)) c3 (by omega) s5 s6
    rw [hq1, sq1] at p1
    obtain ⟨k2, a1, a2⟩ := PK_adv (N := N) hNN hT p1 (c := 45) w2 ⟨rfl, rfl⟩
    have lo : (opX 1).length = 3 := rfl
    rw [lo] at s12 s2 n1 n2 ⊢
    rw [skp_b w3.1 w3.2, show q1 + 1 + 1 + 1 = q1 + 3 by omega, nodeX_nb hx s12] at a2
    obtain ⟨k3, j, hj, g1, g2⟩ := hr dep (q1 + 3) (K + Cl.length) k2 s12 s2 c4 (by omega) s5 a2
    have g3 := g1.trans (ter_end hNN hT g2 (by omega) n1 n2)
    obtain ⟨k4, u1, u2⟩ := PK_push (N := N) (x := -nI 6) g2 (by omega) (show t (K + Cl.length + Cr.length) = 10004 + 1 by rw [Nat.add_assoc]; exact hop) rfl
    refine ⟨k4, i + 1, by rw [hC1]; omega, ?_, by rw [hC1, show K + (Cl.length + Cr.length + 1) = K + Cl.length + Cr.length + 1 by omega]; exact u2⟩
    rw [f1]
    obtain ⟨f, hf⟩ : ∃ f, N - i = f + 1 := ⟨N - i - 1, by omega⟩
    rw [hf, show N - (i + 1) = f by omega]
    exact ts_c2 (PK_7 p1) (PK_7 a2) (by omega) ((PK_sign hT p1 ⟨rfl, rfl⟩ (by omega)).2 (sg_no w2.2 (by omega))) ((PK_sign hT p1 ⟨rfl, rfl⟩ (by omega)).1 w2) a1 g3 (PK_10 g2).1 (PK_10 g2).2 u1
/-- a term's body -/
theorem Ter_bod {m n o : Nat} {Cl Cr : List Nat} {Xl Xr : Nat → List Nat} (hNN : 2000 < N) (hT : TxtB B b len) (ho : o = 2 ∨ o = 3) (hl : TerC N b0 h rl B T R X P Q b len t V0 m n (Xl 2) Cl) (hr : FacC N b0 h rl B T R X P Q b len t V0 m n (Xr 3) Cr) (hx : ∃ Cx, NodeX n Cx Xr) : TerC N b0 h rl B T R X P Q b len t V0 m n (Xl 2 ++ opX o ++ Xr 3) (Cl ++ Cr ++ [10004 + o]) := by
  intro dep q K k s1 s2 s3 s4 s5 s6
  obtain ⟨Cx, hx⟩ := hx
  obtain ⟨s11, s12⟩ := SegAt_app s1
  obtain ⟨s13, s14⟩ := SegAt_app s11
  obtain ⟨c1, c2⟩ := CodAt_app s3
  obtain ⟨c3, c4⟩ := CodAt_app c1
  have hlen : q + (Xl 2 ++ opX o ++ Xr 3).length = q + (Xl 2 ++ opX o).length + (Xr 3).length := by rw [List.length_append]; omega
  have hlen1 : q + (Xl 2 ++ opX o).length = q + (Xl 2).length + (opX o).length := by rw [List.length_append]; omega
  have hC1 : (Cl ++ Cr ++ [10004 + o]).length = Cl.length + Cr.length + 1 := by rw [List.length_append, List.length_append]; rfl
  have hC2 : (Cl ++ Cr).length = Cl.length + Cr.length := List.length_append
  rw [hC1] at s4
  rw [hlen] at s2 ⊢
  rw [hlen1] at s12 s2 ⊢
  generalize hq1 : q + (Xl 2).length = q1 at s12 s14 s2 ⊢
  have hop : t (K + (Cl ++ Cr).length) = 10004 + o := c2 0 Nat.one_pos
  rw [hC2] at hop
  rcases ho with rfl | rfl
  · obtain ⟨w1, s15⟩ := SegAt_cons s14
    obtain ⟨w2, -⟩ := SegAt_cons s15
    have sq1 : skp b len q1 = q1 := skp_nb w1.1 (by rw [w1.2]; omega)
    obtain ⟨k1, i, hi, f1, p1⟩ := hl dep q K k s13 (by rw [hq1]; exact Fol_c w1 ⟨rfl, rfl⟩) c3 (by omega) s5 s6
    rw [hq1, sq1] at p1
    obtain ⟨k2, a1, a2⟩ := PK_adv (N := N) hNN hT p1 (c := 42) w1 ⟨rfl, rfl⟩
    have lo : (opX 2).length = 2 := rfl
    rw [lo] at s12 s2 ⊢
    rw [skp_b w2.1 w2.2, show q1 + 1 + 1 = q1 + 2 by omega, nodeX_nb hx s12] at a2
    obtain ⟨k3, g1, g2⟩ := hr dep (q1 + 2) (K + Cl.length) k2 s12 s2 c4 (by omega) s5 a2
    obtain ⟨k4, u1, u2⟩ := PK_push (N := N) (x := -nI 7) g2 (by omega) (show t (K + Cl.length + Cr.length) = 10004 + 2 by rw [Nat.add_assoc]; exact hop) rfl
    refine ⟨k4, i + 1, by rw [hC1]; omega, ?_, by rw [hC1, show K + (Cl.length + Cr.length + 1) = K + Cl.length + Cr.length + 1 by omega]; exact u2⟩
    rw [f1]
    obtain ⟨f, hf⟩ : ∃ f, N - i = f + 1 := ⟨N - i - 1, by omega⟩
    rw [hf, show N - (i + 1) = f by omega]
    exact tt_c1 (PK_7 p1) (PK_7 a2) (by omega) ((PK_sign hT p1 ⟨rfl, rfl⟩ (by omega)).1 w1) a1 g1 (PK_10 g2).1 (PK_10 g2).2 u1
  · obtain ⟨w1, -⟩ := SegAt_cons s14
    have sq1 : skp b len q1 = q1 := skp_nb w1.1 (by rw [w1.2]; omega)
    obtain ⟨k1, i, hi, f1, p1⟩ := hl dep q K k s13 (by rw [hq1]; exact Fol_c w1 ⟨rfl, rfl⟩) c3 (by omega) s5 s6
    rw [hq1, sq1] at p1
    obtain ⟨k2, a1, a2⟩ := PK_adv (N := N) hNN hT p1 (c := 47) w1 ⟨rfl, rfl⟩
    have lo : (opX 3).length = 1 := rfl
    rw [lo] at s12 s2 ⊢
    rw [nodeX_nb hx s12] at a2
    obtain ⟨k3, g1, g2⟩ := hr dep (q1 + 1) (K + Cl.length) k2 s12 s2 c4 (by omega) s5 a2
    obtain ⟨k4, u1, u2⟩ := PK_push (N := N) (x := -nI 8) g2 (by omega) (show t (K + Cl.length + Cr.length) = 10004 + 3 by rw [Nat.add_assoc]; exact hop) rfl
    refine ⟨k4, i + 1, by rw [hC1]; omega, ?_, by rw [hC1, show K + (Cl.length + Cr.length + 1) = K + Cl.length + Cr.length + 1 by omega]; exact u2⟩
    rw [f1]
    obtain ⟨f, hf⟩ : ∃ f, N - i = f + 1 := ⟨N - i - 1, by omega⟩
    rw [hf, show N - (i + 1) = f by omega]
    exact tt_c2 (PK_7 p1) (PK_7 a2) (by omega) ((PK_sign hT p1 ⟨rfl, rfl⟩ (by omega)).2 (sg_no w1.2 (by omega))) ((PK_sign hT p1 ⟨rfl, rfl⟩ (by omega)).1 w1) a1 g1 (PK_10 g2).1 (PK_10 g2).2 u1
/-- in brackets -/
theorem Fac_par {m n : Nat} {L C : List Nat} (hNN : 2000 < N) (hT : TxtB B b len) (hs : SumC N b0 h rl B T R X P Q b len t V0 m n L C) (hx : ∀ q, SegAt b len q L → skp b len q = q) : FacC N b0 h rl B T R X P Q b len t V0 (m + 1) (n + 1) ([40] ++ L ++ [41]) C := by
  intro dep q K k s1 s2 s3 s4 s5 s6
  obtain ⟨s11, s12⟩ := SegAt_app s1
  obtain ⟨s13, s14⟩ := SegAt_app s11
  have hlen : q + ([40] ++ L ++ [41]).length = q + 1 + L.length + 1 := by rw [List.length_append, List.length_append]; show q + (1 + L.length + 1) = _; omega
  have hl1 : q + ([40] ++ L).length = q + 1 + L.length := by rw [List.length_append]; show q + (1 + L.length) = _; omega
  rw [hl1] at s12
  rw [hlen] at s2 ⊢
  obtain ⟨w1, -⟩ := SegAt_cons s13
  have s14 : SegAt b len (q + 1) L := s14
  obtain ⟨w2, -⟩ := SegAt_cons s12
  have sq2 : skp b len (q + 1 + L.length) = q + 1 + L.length := skp_nb w2.1 (by rw [w2.2]; omega)
  obtain ⟨k1, a1, a2⟩ := PK_adv (N := N) hNN hT s6 (c := 40) w1 ⟨rfl, rfl⟩
  rw [hx _ s14] at a2
  obtain ⟨k2, i, hi, f1, p1⟩ := hs (dep + 1) (q + 1) K k1 s14 (Fol_c w2 ⟨rfl, rfl⟩) (by rw [sq2]; exact sg_no w2.2 (by omega)) (by rw [sq2]; exact sg_no w2.2 (by omega)) s3 (by omega) (by omega) a2
  rw [sq2] at p1
  have f2 := f1.trans (sum_end hNN hT p1 (by omega) (sg_no w2.2 (by omega)) (sg_no w2.2 (by omega)))
  obtain ⟨k3, t1, t2⟩ := PK_take (N := N) hNN hT p1 (c := 41) w2 ⟨rfl, rfl⟩ (by omega)
  exact ⟨k3, cf_par1 (PK_7 s6) (PK_7 a2) (PK_7 p1) ((PK_sign hT s6 ⟨rfl, rfl⟩ (by omega)).1 w1) (by omega) a1 f2 (Or.inr rfl) t1, t2⟩
theorem FacC_n {m n n' : Nat} {L C : List Nat} (hF : FacC N b0 h rl B T R X P Q b len t V0 m n L C) (hn : n ≤ n') : FacC N b0 h rl B T R X P Q b len t V0 m n' L C := fun dep q K k s1 s2 s3 s4 s5 s6 => hF dep q K k s1 s2 s3 s4 (by omega) s6
theorem TerC_n {m n n' : Nat} {L C : List Nat} (hF : TerC N b0 h rl B T R X P Q b len t V0 m n L C) (hn : n ≤ n') : TerC N b0 h rl B T R X P Q b len t V0 m n' L C := fun dep q K k s1 s2 s3 s4 s5 s6 => hF dep q K k s1 s2 s3 s4 (by omega) s6
theorem SumC_n {m n n' : Nat} {L C : List Nat} (hF : SumC N b0 h rl B T R X P Q b len t V0 m n L C) (hn : n ≤ n') : SumC N b0 h rl B T R X P Q b len t V0 m n' L C := fun dep q K k s1 s2 n1 n2 s3 s4 s5 s6 => hF dep q K k s1 s2 n1 n2 s3 s4 (by omega) s6
theorem expr_ok (hNN : 2000 < N) (hT : TxtB B b len) : ∀ (n : Nat) (C : List Nat) (Y : Nat → List Nat), NodeX n C Y → ∀ m, 2 * n ≤ m → FacC N b0 h rl B T R X P Q b len t V0 m n (Y 3) C ∧ TerC N b0 h rl B T R X P Q b len t V0 m n (Y 2) C ∧ SumC N b0 h rl B T R X P Q b len t V0 m n (Y 1) C := by
  have lf : ∀ (n : Nat) (C : List Nat) (Y : Nat → List Nat), LeafX C Y → ∀ m, FacC N b0 h rl B T R X P Q b len t V0 m n (Y 3) C ∧ TerC N b0 h rl B T R X P Q b len t V0 m n (Y 2) C ∧ SumC N b0 h rl B T R X P Q b len t V0 m n (Y 1) C := fun n C Y hl m => ⟨Fac_leaf 3 hNN hT hl, Ter_of_Fac (Fac_leaf 2 hNN hT hl), Sum_of_Ter hNN hT (Ter_of_Fac (Fac_leaf 1 hNN hT hl))⟩
  intro n
  induction n with
  | zero => exact fun C Y hl m _ => lf 0 C Y hl m
  | succ n ih =>
    intro C Y hx m hm
    have hx0 := hx
    rcases hx with hx | ⟨o, Cl, Cr, Xl, Xr, h1, h2, h3, rfl, h5⟩
    · exact lf (n + 1) C Y hx m
    · obtain ⟨m', rfl⟩ : ∃ k, m = k + 1 := ⟨m - 1, by omega⟩
      by_cases ho : o < 2
      · have e1 : Y 1 = Xl 1 ++ opX o ++ Xr 2 := by rw [h5]; unfold binX; rw [if_pos ho, if_neg (by omega)]
        have e2 : Y 2 = [40] ++ (Xl 1 ++ opX o ++ Xr 2) ++ [41] := by rw [h5]; unfold binX; rw [if_pos ho, if_pos (by omega)]
        have e3 : Y 3 = [40] ++ (Xl 1 ++ opX o ++ Xr 2) ++ [41] := by rw [h5]; unfold binX; rw [if_pos ho, if_pos (by omega)]
        have sb : ∀ m', 2 * n ≤ m' → SumC N b0 h rl B T R X P Q b len t V0 m' n (Xl 1 ++ opX o ++ Xr 2) (Cl ++ Cr ++ [10004 + o]) := fun m' hm' => Sum_bod hNN hT ho (ih Cl Xl h2 m' hm').2.2 (ih Cr Xr h3 m' hm').2.1 ⟨Cr, h3⟩
        have fb : FacC N b0 h rl B T R X P Q b len t V0 (m' + 1) (n + 1) ([40] ++ (Xl 1 ++ opX o ++ Xr 2) ++ [41]) (Cl ++ Cr ++ [10004 + o]) := Fac_par hNN hT (sb m' (by omega)) (fun q hs => by rw [← e1] at hs; exact nodeX_nb hx0 hs)
        rw [e1, e2, e3]
        exact ⟨fb, Ter_of_Fac fb, SumC_n (sb (m' + 1) (by omega)) (by omega)⟩
      · have ho2 : o = 2 ∨ o = 3 := by omega
        have e1 : Y 1 = Xl 2 ++ opX o ++ Xr 3 := by rw [h5]; unfold binX; rw [if_neg ho, if_neg (by omega)]
        have e2 : Y 2 = Xl 2 ++ opX o ++ Xr 3 := by rw [h5]; unfold binX; rw [if_neg ho, if_neg (by omega)]
        have e3 : Y 3 = [40] ++ (Xl 2 ++ opX o ++ Xr 3) ++ [41] := by rw [h5]; unfold binX; rw [if_neg ho, if_pos (by omega)]
        have tb : ∀ m', 2 * n ≤ m' → TerC N b0 h rl B T R X P Q b len t V0 m' n (Xl 2 ++ opX o ++ Xr 3) (Cl ++ Cr ++ [10004 + o]) := fun m' hm' => Ter_bod hNN hT ho2 (ih Cl Xl h2 m' hm').2.1 (ih Cr Xr h3 m' hm').1 ⟨Cr, h3⟩
        have fb : FacC N b0 h rl B T R X P Q b len t V0 (m' + 1) (n + 1) ([40] ++ (Xl 2 ++ opX o ++ Xr 3) ++ [41]) (Cl ++ Cr ++ [10004 + o]) := Fac_par hNN hT (Sum_of_Ter hNN hT (tb m' (by omega))) (fun q hs => by rw [← e1] at hs; exact nodeX_nb hx0 hs)
        rw [e1, e2, e3]
        exact ⟨fb, TerC_n (tb (m' + 1) (by omega)) (by omega), SumC_n (Sum_of_Ter hNN hT (tb (m' + 1) (by omega))) (by omega)⟩
/-- the codes keep within the stack -/
theorem node_wf {t : Nat → Nat} : ∀ (n : Nat) (C : List Nat) (Y : Nat → List Nat), NodeX n C Y → ∀ K s, CodAt t K C → hgt t K = s → s + n ≤ 10 → (hgt t (K + C.length) = s + 1 ∧ ∀ j, K ≤ j → j < K + C.length → t j ≤ 10007 ∧ (10004 ≤ t j → 2 ≤ hgt t j) ∧ (t j < 10004 → hgt t j ≤ 10)) ∧ 0 < C.length ∧ C.length + 1 ≤ 2 ^ (n + 1) := by
  have lf : ∀ (n : Nat) (C : List Nat) (Y : Nat → List Nat), LeafX C Y → ∀ K s, CodAt t K C → hgt t K = s → s + n ≤ 10 → (hgt t (K + C.length) = s + 1 ∧ ∀ j, K ≤ j → j < K + C.length → t j ≤ 10007 ∧ (10004 ≤ t j → 2 ≤ hgt t j) ∧ (t j < 10004 → hgt t j ≤ 10)) ∧ 0 < C.length ∧ C.length + 1 ≤ 2 ^ (n + 1) := by
    rintro n C Y ⟨v, ⟨h1, rfl, -⟩ | ⟨h1, rfl, -⟩⟩ K s hc hs hn
    · have hv : t K = v := hc 0 Nat.one_pos
      have hl : [v].length = 1 := rfl
      refine ⟨⟨?_, fun j j1 j2 => ?_⟩, by rw [hl]; omega, by rw [hl, Nat.pow_succ]; have := Nat.two_pow_pos n; omega⟩
      · rw [hl, hgt_va (by omega), hs]
      · rw [hl] at j2
        have : j = K := by omega
        subst this
        omega
    · have hv : t K = 10000 + v := hc 0 Nat.one_pos
      have hl : [10000 + v].length = 1 := rfl
      refine ⟨⟨?_, fun j j1 j2 => ?_⟩, by rw [hl]; omega, by rw [hl, Nat.pow_succ]; have := Nat.two_pow_pos n; omega⟩
      · rw [hl, hgt_va (by omega), hs]
      · rw [hl] at j2
        have : j = K := by omega
        subst this
        omega
  intro n
  induction n with
  | zero => exact lf 0
  | succ n ih =>
    intro C Y hx K s hc hs hn
    rcases hx with hx | ⟨o, Cl, Cr, Xl, Xr, h1, h2, h3, rfl, h5⟩
    · exact lf (n + 1) C Y hx K s hc hs hn
    · obtain ⟨c1, c2⟩ := CodAt_app hc
      obtain ⟨c3, c4⟩ := CodAt_app c1
      obtain ⟨⟨a1, a2⟩, a3, a4⟩ := ih Cl Xl h2 K s c3 hs (by omega)
      obtain ⟨⟨b1, b2⟩, b3, b4⟩ := ih Cr Xr h3 (K + Cl.length) (s + 1) c4 a1 (by omega)
      have hop : t (K + (Cl ++ Cr).length) = 10004 + o := c2 0 Nat.one_pos
      rw [List.length_append, ← Nat.add_assoc] at hop
      have hl : (Cl ++ Cr ++ [10004 + o]).length = Cl.length + Cr.length + 1 := by rw [List.length_append, List.length_append]; rfl
      rw [hl]
      refine ⟨⟨?_, fun j j1 j2 => ?_⟩, by omega, by rw [Nat.pow_succ]; omega⟩
      · rw [show K + (Cl.length + Cr.length + 1) = K + Cl.length + Cr.length + 1 by omega, hgt_op (by omega), b1]; omega
      · by_cases j3 : j < K + Cl.length
        · exact a2 j j1 j3
        · by_cases j4 : j < K + Cl.length + Cr.length
          · exact b2 j (by omega) j4
          · have : j = K + Cl.length + Cr.length := by omega
            subst this
            omega
end M73

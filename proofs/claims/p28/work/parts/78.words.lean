/-! ===== words and numbers ===== -/
def kS (i : Nat) : List Nat := (zbyt.getD i []).map Int32.toNatClampNeg
def K20 (M : Nat → Prop) (κ : Nat → Nat) (h : zH) : Prop := ∀ i, i < 20 → StrAt M h (κ i) (kS i)
def dgL (n : Nat) : Nat → List Nat
  | 0 => [48 + n % 10]
  | k + 1 => (48 + n / 10 ^ (k + 1) % 10) :: dgL n k
def nsX : List Nat → List Nat
  | [] => []
  | n :: ns => (32 :: digX n) ++ nsX ns
section M78
variable {M W : Nat → Prop} {h h' : zH} {b0 bu K N z m : Nat} {ea : Int32} {d : Nat → Nat} {t : Nat → Nat} {yy : Nat × (Nat → Nat → Nat) × (Nat → Nat) × (Nat → Nat → Nat)} {B : Nat → Int32} {L S : List Nat} {c s n : Nat} {κ : Nat → Nat}
theorem K20_fc {n : Nat} (q : K20 M κ h) (f : FC W n m h h') (hw : ∀ y, W y → M y) : K20 M κ h' := fun i hi => StrAt_fc (q i hi) f hw
theorem K20_M {M' : Nat → Prop} (q : K20 M κ h) (hm : ∀ y, y < hS h → M' y → M y) : K20 M' κ h := fun i hi => StrAt_M (q i hi) hm
theorem Wr_W (q : WrAt M b0 bu h d K t yy ea L) : ∀ y, wrW b0 bu y → M y := q.2.2.2.2.2.1
theorem L_write_l (hNN : 1400 < N) : ∀ (R A : List Nat) (h : zH) (fu : Nat), S = A ++ R → R.length < fu → WrAt M b0 bu h d K t yy ea (L ++ A) → StrAt M h s S → L.length + S.length ≤ 660 → ∃ h', f_L_write_l2 N b0 bu s fu (nI A.length) h = some h' ∧ WrAt M b0 bu h' d K t yy ea (L ++ S) ∧ FC (wrW b0 bu) 0 0 h h' := by
  intro R
  induction R with
  | nil =>
    intro A h fu hs hf q st hl
    obtain ⟨f, rfl⟩ : ∃ f, fu = f + 1 := ⟨fu - 1, by omega⟩
    rw [List.append_nil] at hs
    subst hs
    obtain ⟨l1, -⟩ := Str_ln st
    refine ⟨h, ?_, q, FC_rf⟩
    rw [f_L_write_l2]
    simp (disch := omega) only [l1, nleT, Option.bind_some, ↓reduceIte]
  | cons c R ih =>
    intro A h fu hs hf q st hl
    obtain ⟨f, rfl⟩ : ∃ f, fu = f + 1 := ⟨fu - 1, by omega⟩
    obtain ⟨l1, l2, l3, l4⟩ := Str_ln st
    have hlen : S.length = A.length + (R.length + 1) := by rw [hs, List.length_append]; rfl
    have hlt : A.length < S.length := by omega
    have hc : S.getD A.length 0 = c := by
      rw [hs]
      have := getD_r (A := A) (B := c :: R) (i := 0)
      rw [Nat.add_zero] at this
      rw [this]; rfl
    have hc2 : c < 256 := by rw [← hc]; exact l2 _
    have l5 := l4 A.length hlt
    rw [hc] at l5
    have hA1 : (L ++ A).length = L.length + A.length := List.length_append
    obtain ⟨h1, p1, p2, p3⟩ := L_put (N := N) (c := c) hNN q hc2 (by omega)
    rw [List.append_assoc] at p2
    have hs2 : S = (A ++ [c]) ++ R := by rw [hs, List.append_assoc]; rfl
    have hA2 : (A ++ [c]).length = A.length + 1 := List.length_append
    obtain ⟨h', i1, i2, i3⟩ := ih (A ++ [c]) h1 f hs2 (by rw [List.length_cons] at hf; omega) p2 (StrAt_fc st p3 (Wr_W q)) hl
    rw [hA2] at i1
    refine ⟨h', ?_, i2, FC_mono (FC_tr p3 i3) (by omega) (by omega) (fun _ _ h => h)⟩
    rw [f_L_write_l2]
    simp (disch := omega) only [l1, l5, nleF, p1, nlit, nadd, i1, Option.bind_some, ↓reduceIte]
theorem L_write (hNN : 1400 < N) (q : WrAt M b0 bu h d K t yy ea L) (st : StrAt M h s S) (hl : L.length + S.length ≤ 660) : ∃ h', f_L_write N b0 bu s h = some h' ∧ WrAt M b0 bu h' d K t yy ea (L ++ S) ∧ FC (wrW b0 bu) 0 0 h h' := by
  obtain ⟨h', i1, i2, i3⟩ := L_write_l (N := N) (L := L) (S := S) (s := s) hNN S [] h N rfl (by omega) (by rw [List.append_nil]; exact q) st hl
  exact ⟨h', i1, i2, i3⟩
theorem l18_end {f : Nat} : f_L_writeNumber_l18 N b0 bu (nI n) (f + 1) (nI 0) h = some h := by
  rw [f_L_writeNumber_l18, show (0 : Int32) = nI 0 from rfl, if_pos (of_eq_true (nleT (by omega) (Nat.le_refl _)))]
theorem l18_go {p p' f x : Nat} (hp : 0 < p) (hp2 : p < 2 ^ 31) (e1 : zdivI (nI n) (nI p) = some (nI x)) (e2 : zremI (nI x) (nI 10) = some (nI (x % 10))) (e3 : zdivI (nI p) (nI 10) = some (nI p')) (p1 : f_L_put N b0 bu (nI (48 + x % 10)) h = some h') : f_L_writeNumber_l18 N b0 bu (nI n) (f + 1) (nI p) h = f_L_writeNumber_l18 N b0 bu (nI n) f (nI p') h' := by
  rw [f_L_writeNumber_l18, show (0 : Int32) = nI 0 from rfl, if_neg (of_eq_false (nleF hp2 hp)), e1, Option.bind_some, show (10 : Int32) = nI 10 from rfl, e2, Option.bind_some, show (48 : Int32) = nI 48 from rfl, nadd, p1, Option.bind_some, e3, Option.bind_some]
theorem nrun (hNN : 1400 < N) (hn : n < 100000) : ∀ (k : Nat) (h : zH) (L : List Nat) (fu : Nat), k + 1 < fu → k < 5 → WrAt M b0 bu h d K t yy ea L → L.length + (k + 1) ≤ 660 → ∃ h', f_L_writeNumber_l18 N b0 bu (nI n) fu (nI (10 ^ k)) h = some h' ∧ WrAt M b0 bu h' d K t yy ea (L ++ dgL n k) ∧ FC (wrW b0 bu) 0 0 h h' := by
  intro k
  induction k with
  | zero =>
    intro h L fu hf _ q hl
    obtain ⟨f, rfl⟩ : ∃ f, fu = f + 2 := ⟨fu - 2, by omega⟩
    have e1 : zdivI (nI n) (nI 1) = some (nI (n / 1)) := ndivI (by omega) (by omega) (by omega)
    have e2 : zremI (nI (n / 1)) (nI 10) = some (nI (n / 1 % 10)) := nremI (by omega) (by omega) (by omega)
    have e3 : zdivI (nI 1) (nI 10) = some (nI (1 / 10)) := ndivI (by omega) (by omega) (by omega)
    obtain ⟨h', p1, p2, p3⟩ := L_put (N := N) (c := 48 + n / 1 % 10) hNN q (by omega) (by omega)
    rw [Nat.div_one] at p2
    refine ⟨h', ?_, p2, p3⟩
    exact (l18_go (p := 1) (by omega) (by omega) e1 e2 e3 p1).trans l18_end
  | succ k ih =>
    intro h L fu hf hk q hl
    obtain ⟨f, rfl⟩ : ∃ f, fu = f + 1 := ⟨fu - 1, by omega⟩
    have hp : 0 < 10 ^ (k + 1) := Nat.pow_pos (by omega)
    have hp2 : 10 ^ (k + 1) < 2 ^ 31 := Nat.lt_of_le_of_lt (Nat.pow_le_pow_right (by omega) (show k + 1 ≤ 5 by omega)) (by decide)
    have hd : 10 ^ (k + 1) / 10 = 10 ^ k := by rw [Nat.pow_succ]; exact Nat.mul_div_cancel _ (by omega)
    have hq : n / 10 ^ (k + 1) < 2 ^ 31 := Nat.lt_of_le_of_lt (Nat.div_le_self _ _) (by omega)
    have e1 : zdivI (nI n) (nI (10 ^ (k + 1))) = some (nI (n / 10 ^ (k + 1))) := ndivI (by omega) hp hp2
    have e2 : zremI (nI (n / 10 ^ (k + 1))) (nI 10) = some (nI (n / 10 ^ (k + 1) % 10)) := nremI hq (by omega) (by omega)
    have e3 : zdivI (nI (10 ^ (k + 1))) (nI 10) = some (nI (10 ^ k)) := by rw [← hd]; exact ndivI hp2 (by omega) (by omega)
    have hm : n / 10 ^ (k + 1) % 10 < 10 := Nat.mod_lt _ (by omega)
    obtain ⟨h1, p1, p2, p3⟩ := L_put (N := N) (c := 48 + n / 10 ^ (k + 1) % 10) hNN q (by omega) (by omega)
    have hL1 : (L ++ [48 + n / 10 ^ (k + 1) % 10]).length = L.length + 1 := List.length_append
    obtain ⟨h', i1, i2, i3⟩ := ih h1 _ f (by omega) (by omega) p2 (by omega)
    rw [List.append_assoc] at i2
    refine ⟨h', ?_, i2, FC_mono (FC_tr p3 i3) (by omega) (by omega) (fun _ _ h => h)⟩
    exact (l18_go hp hp2 e1 e2 e3 p1).trans i1
theorem l2_stop {p f : Nat} {k1 : Int32 → zH → Option zH} (hn : n < 100000) (hp : n / 10 < p) (hp2 : p < 1000000) : f_L_writeNumber_l2 N b0 bu (nI n) k1 (f + 1) (nI p) h = k1 (nI p) h := by
  have e1 : zdivI (nI n) (nI 10) = some (nI (n / 10)) := ndivI (by omega) (by omega) (by omega)
  rw [f_L_writeNumber_l2]
  simp (disch := omega) only [nlit, e1, nltT, Option.bind_some, ↓reduceIte]
theorem l2_go {p f : Nat} {k1 : Int32 → zH → Option zH} (hn : n < 100000) (hp : p ≤ n / 10) (hp2 : p < 1000000) : f_L_writeNumber_l2 N b0 bu (nI n) k1 (f + 1) (nI p) h = f_L_writeNumber_l2 N b0 bu (nI n) k1 f (nI (p * 10)) h := by
  have e1 : zdivI (nI n) (nI 10) = some (nI (n / 10)) := ndivI (by omega) (by omega) (by omega)
  rw [f_L_writeNumber_l2]
  simp (disch := omega) only [nlit, e1, nltF, nmul, Option.bind_some, ↓reduceIte]
theorem dg_eq (hn : n < 100000) : (n < 10 ∧ digX n = dgL n 0) ∨ (10 ≤ n ∧ n < 100 ∧ digX n = dgL n 1) ∨ (100 ≤ n ∧ n < 1000 ∧ digX n = dgL n 2) ∨ (1000 ≤ n ∧ n < 10000 ∧ digX n = dgL n 3) ∨ (10000 ≤ n ∧ digX n = dgL n 4) := by
  unfold digX
  by_cases h1 : n < 10
  · refine Or.inl ⟨h1, ?_⟩
    rw [if_pos h1]
    show [48 + n] = [48 + n % 10]
    rw [show n % 10 = n by omega]
  · rw [if_neg h1]
    by_cases h2 : n < 100
    · refine Or.inr (Or.inl ⟨by omega, h2, ?_⟩)
      rw [if_pos h2]
      show [48 + n / 10, 48 + n % 10] = [48 + n / 10 % 10, 48 + n % 10]
      rw [show n / 10 % 10 = n / 10 by omega]
    · rw [if_neg h2]
      by_cases h3 : n < 1000
      · refine Or.inr (Or.inr (Or.inl ⟨by omega, h3, ?_⟩))
        rw [if_pos h3]
        show [48 + n / 100, 48 + n / 10 % 10, 48 + n % 10] = [48 + n / 100 % 10, 48 + n / 10 % 10, 48 + n % 10]
        rw [show n / 100 % 10 = n / 100 by omega]
      · rw [if_neg h3]
        by_cases h4 : n < 10000
        · refine Or.inr (Or.inr (Or.inr (Or.inl ⟨by omega, h4, ?_⟩)))
          rw [if_pos h4]
          show [48 + n / 1000, 48 + n / 100 % 10, 48 + n / 10 % 10, 48 + n % 10] = [48 + n / 1000 % 10, 48 + n / 100 % 10, 48 + n / 10 % 10, 48 + n % 10]
          rw [show n / 1000 % 10 = n / 1000 by omega]
        · refine Or.inr (Or.inr (Or.inr (Or.inr ⟨by omega, ?_⟩)))
          rw [if_neg h4, if_pos hn]
          show [48 + n / 10000, 48 + n / 1000 % 10, 48 + n / 100 % 10, 48 + n / 10 % 10, 48 + n % 10] = [48 + n / 10000 % 10, 48 + n / 1000 % 10, 48 + n / 100 % 10, 48 + n / 10 % 10, 48 + n % 10]
          rw [show n / 10000 % 10 = n / 10000 by omega]
theorem L_writeNumber (hNN : 1400 < N) (q : WrAt M b0 bu h d K t yy ea L) (hn : n < 100000) (hl : L.length + 5 ≤ 660) : ∃ h', f_L_writeNumber N b0 bu (nI n) h = some h' ∧ WrAt M b0 bu h' d K t yy ea (L ++ digX n) ∧ FC (wrW b0 bu) 0 0 h h' := by
  obtain ⟨f, rfl⟩ : ∃ f, N = f + 1 + 1 + 1 + 1 + 1 := ⟨N - 5, by omega⟩
  unfold f_L_writeNumber
  rw [show (1 : Int32) = nI 1 from rfl]
  rcases dg_eq hn with ⟨h1, e⟩ | ⟨h0, h1, e⟩ | ⟨h0, h1, e⟩ | ⟨h0, h1, e⟩ | ⟨h0, e⟩ <;> rw [e]
  · rw [l2_stop hn (by omega) (by omega)]
    exact nrun hNN hn 0 h L _ (by omega) (by omega) q (by omega)
  · rw [l2_go hn (by omega) (by omega), l2_stop hn (by omega) (by omega)]
    exact nrun hNN hn 1 h L _ (by omega) (by omega) q (by omega)
  · rw [l2_go hn (by omega) (by omega), l2_go hn (by omega) (by omega), l2_stop hn (by omega) (by omega)]
    exact nrun hNN hn 2 h L _ (by omega) (by omega) q (by omega)
  · rw [l2_go hn (by omega) (by omega), l2_go hn (by omega) (by omega), l2_go hn (by omega) (by omega), l2_stop hn (by omega) (by omega)]
    exact nrun hNN hn 3 h L _ (by omega) (by omega) q (by omega)
  · rw [l2_go hn (by omega) (by omega), l2_go hn (by omega) (by omega), l2_go hn (by omega) (by omega), l2_go hn (by omega) (by omega), l2_stop hn (by omega) (by omega)]
    exact nrun hNN hn 4 h L _ (by omega) (by omega) q (by omega)
theorem nums_l {nu cnt : Nat} {g : Nat → Int32} (hNN : 1400 < N) (hnu : ¬ wrW b0 bu nu) : ∀ (ns : List Nat) (i : Nat) (h : zH) (L : List Nat) (fu : Nat), i + ns.length = cnt → ns.length < fu → cnt < 100 → hM h nu = some (.inl (0, cnt, .inl g)) → nu < hS h → (∀ j, j < ns.length → g (i + j) = nI (ns.getD j 0) ∧ ns.getD j 0 < 100000) → WrAt M b0 bu h d K t yy ea L → K20 M κ h → L.length + 6 * ns.length ≤ 660 → ∃ h', (∀ k1, f_L_writeNumbers_l17 N κ b0 bu nu (nI cnt) k1 fu (nI i) h = k1 h') ∧ WrAt M b0 bu h' d K t yy ea (L ++ nsX ns) ∧ FC (wrW b0 bu) 0 0 h h' := by
  intro ns
  induction ns with
  | nil =>
    intro i h L fu hi hf hc hm hn hg q k20 hl
    obtain ⟨f, rfl⟩ : ∃ f, fu = f + 1 := ⟨fu - 1, by omega⟩
    have : i = cnt := hi
    subst this
    refine ⟨h, fun k1 => ?_, by show WrAt M b0 bu h d K t yy ea (L ++ []); rw [List.append_nil]; exact q, FC_rf⟩
    rw [f_L_writeNumbers_l17]
    simp (disch := omega) only [nleT, ↓reduceIte]
  | cons n ns ih =>
    intro i h L fu hi hf hc hm hn hg q k20 hl
    obtain ⟨f, rfl⟩ : ∃ f, fu = f + 1 := ⟨fu - 1, by omega⟩
    rw [List.length_cons] at hi hf hg hl
    obtain ⟨g1, g2⟩ := hg 0 (by omega)
    have g1 : g i = nI n := g1
    have g2 : n < 100000 := g2
    have l1 : ldI h nu (nI i) = some (nI n) := by rw [ldI_of' hm (by omega) (by omega), g1]
    obtain ⟨h1, w1, w2, w3⟩ := L_write (N := N) hNN q (k20 11 (by omega)) (by have : (kS 11).length = 1 := rfl; omega)
    have k11 : kS 11 = [32] := rfl
    rw [k11] at w2
    have hl1 : (L ++ [32]).length = L.length + 1 := List.length_append
    obtain ⟨h2, v1, v2, v3⟩ := L_writeNumber (N := N) hNN w2 g2 (by omega)
    have f2 := FC_tr w3 v3
    rw [List.append_assoc] at v2
    have hdl := (digX_ok g2).2.2.2
    have hl2 : (L ++ ([32] ++ digX n)).length ≤ L.length + 6 := by
      rw [List.length_append, List.length_append]
      show L.length + (1 + (digX n).length) ≤ _
      omega
    obtain ⟨h', i1, i2, i3⟩ := ih (i + 1) h2 (L ++ ([32] ++ digX n)) f (by omega) (by omega) hc (cell_fc hm hn f2 hnu (fun σ e => by cases e)) (Nat.lt_of_lt_of_le hn f2.1.1) (fun j hj => by
      have := hg (j + 1) (by omega)
      rw [show i + 1 + j = i + (j + 1) by omega]
      exact this) v2 (K20_fc k20 f2 (Wr_W q)) (by omega)
    rw [List.append_assoc] at i2
    refine ⟨h', fun k1 => ?_, i2, FC_mono (FC_tr f2 i3) (by omega) (by omega) (fun _ _ h => h)⟩
    rw [f_L_writeNumbers_l17]
    simp (disch := omega) only [nleF, l1, w1, v1, nlit, nadd, i1, Option.bind_some, ↓reduceIte]
theorem nsX_len : ∀ ns : List Nat, (∀ j, j < ns.length → ns.getD j 0 < 100000) → (nsX ns).length ≤ 6 * ns.length
  | [], _ => Nat.le_refl _
  | n :: ns, hg => by
    have h0 : n < 100000 := hg 0 (Nat.succ_pos _)
    have h1 := (digX_ok h0).2.2.2
    have h2 := nsX_len ns (fun j hj => hg (j + 1) (Nat.succ_lt_succ hj))
    show ((32 :: digX n) ++ nsX ns).length ≤ 6 * (n :: ns).length
    rw [List.length_append, List.length_cons, List.length_cons]
    omega
/-- a word, numbers, a sign -/
theorem L_writeNumbers {nu : Nat} {ns : List Nat} {g : Nat → Int32} (hNN : 1400 < N) (hnu : ¬ wrW b0 bu nu) (hns : ns.length < 100) (hm : hM h nu = some (.inl (0, ns.length, .inl g))) (hn : nu < hS h) (hg : ∀ j, j < ns.length → g j = nI (ns.getD j 0) ∧ ns.getD j 0 < 100000) (q : WrAt M b0 bu h d K t yy ea L) (k20 : K20 M κ h) (st : StrAt M h s S) (hl : L.length + S.length + 6 * ns.length + 1 ≤ 660) : ∃ h', f_L_writeNumbers N κ b0 bu s nu h = some h' ∧ WrAt M b0 bu h' d K t yy ea (L ++ (S ++ (nsX ns ++ [59]))) ∧ FC (wrW b0 bu) 0 0 h h' := by
  obtain ⟨h1, w1, w2, w3⟩ := L_write (N := N) hNN q st (by omega)
  have hm1 := cell_fc hm hn w3 hnu (fun σ e => by cases e)
  have hl1 : (L ++ S).length = L.length + S.length := List.length_append
  obtain ⟨h2, v1, v2, v3⟩ := nums_l (N := N) (κ := κ) hNN hnu ns 0 h1 (L ++ S) N (by omega) (by omega) hns hm1 (Nat.lt_of_lt_of_le hn w3.1.1) (fun j hj => by rw [Nat.zero_add]; exact hg j hj) w2 (K20_fc k20 w3 (Wr_W q)) (by omega)
  have hdl := nsX_len ns (fun j hj => (hg j hj).2)
  obtain ⟨h3, u1, u2, u3⟩ := L_write (N := N) hNN v2 (K20_fc (K20_fc k20 w3 (Wr_W q)) v3 (Wr_W q) 12 (by omega)) (by have : (kS 12).length = 1 := rfl; rw [List.length_append, hl1]; omega)
  have k12 : kS 12 = [59] := rfl
  rw [k12, List.append_assoc, List.append_assoc] at u2
  refine ⟨h3, ?_, u2, FC_mono (FC_tr w3 (FC_tr v3 u3)) (by omega) (by omega) (fun _ _ h => h)⟩
  have l1 : aLen h1 nu = some (nI ns.length) := aLen_of' hm1 (by decide)
  unfold f_L_writeNumbers
  rw [w1, Option.bind_some, l1, Option.bind_some, show (0 : Int32) = nI 0 from rfl, v1]
  rw [u1]
  rfl
end M78

def ux (x : Int32) : Nat := x.toUInt32.toNat
theorem ux_inj {x y : Int32} (h : ux x = ux y) : x = y := by
  have : x.toUInt32 = y.toUInt32 := UInt32.toNat.inj h
  have h2 : x.toUInt32.toInt32 = y.toUInt32.toInt32 := by rw [this]
  simpa using h2
theorem ux_nI {v : Nat} (h : v < 2 ^ 32) : ux (nI v) = v := by
  unfold ux nI
  rw [Int32.toUInt32_ofNat', UInt32.toNat_ofNat', Nat.mod_eq_of_lt (by simpa using h)]
def byteN (w : Int32) (i : Nat) : Nat := ux w / 2 ^ (8 * i) % 256
theorem byteN_lt (w : Int32) (i : Nat) : byteN w i < 256 := Nat.mod_lt _ (by omega)
theorem sh4 : ∀ i : Fin 4, (((8 : Int32) * nI i.val).toUInt32 &&& Int32.toUInt32 31).toNat = 8 * i.val := by decide
theorem x_byte {w : Int32} {i : Nat} (hi : i < 4) : (w.toUInt32 >>> (((8 : Int32) * nI i).toUInt32 &&& Int32.toUInt32 31)).toInt32 &&& (255 : Int32) = nI (byteN w i) := by
  apply ux_inj
  rw [ux_nI (by have := byteN_lt w i; omega)]
  unfold ux byteN
  rw [Int32.toUInt32_and, UInt32.toUInt32_toInt32, UInt32.toNat_and, UInt32.toNat_shiftRight, sh4 ⟨i, hi⟩]
  have e1 : (Int32.toUInt32 255).toNat = 2 ^ 8 - 1 := by decide
  rw [e1, Nat.and_two_pow_sub_one_eq_mod, Nat.shiftRight_eq_div_pow, Nat.mod_eq_of_lt (show 8 * i < 32 by omega)]
  rfl
theorem sh5 : ∀ i : Fin 4, (((24 : Int32) - (8 : Int32) * nI i.val) &&& 31) = nI (24 - 8 * i.val) := by decide
theorem bv_byte (x : BitVec 32) (s : Nat) (hs : s ≤ 24) : (x.sshiftRight s) &&& 255#32 = (x >>> s) &&& 255#32 := by
  apply BitVec.eq_of_getLsbD_eq
  intro i hi
  rw [BitVec.getLsbD_and, BitVec.getLsbD_and, BitVec.getLsbD_sshiftRight, BitVec.getLsbD_ushiftRight]
  by_cases h8 : i < 8
  · have : s + i < 32 := by omega
    have h32 : ¬ 32 ≤ i := by omega
    simp [this, h32]
  · have : (255#32).getLsbD i = false := by
      have e : 255#32 = BitVec.ofNat 32 (2 ^ 8 - 1) := rfl
      rw [e, BitVec.getLsbD_ofNat, Nat.testBit_two_pow_sub_one]
      simp [h8]
    rw [this, Bool.and_false, Bool.and_false]
theorem m_byte {w : Int32} {i : Nat} (hi : i < 4) : (w >>> (((24 : Int32) - (8 : Int32) * nI i) &&& 31)) &&& (255 : Int32) = nI (byteN w (3 - i)) := by
  rw [← x_byte (show 3 - i < 4 by omega)]
  have key : ∀ s : Nat, s ≤ 24 → ∀ u : UInt32, u.toNat = s → (w >>> nI s) &&& (255 : Int32) = (w.toUInt32 >>> u).toInt32 &&& (255 : Int32) := by
    intro s hs u hu
    apply Int32.toBitVec.inj
    rw [Int32.toBitVec_and, Int32.toBitVec_and, Int32.toBitVec_shiftRight]
    have e1 : ((nI s).toBitVec.smod 32).toNat = s := by
      have h : ∀ s : Fin 25, ((nI s.val).toBitVec.smod 32).toNat = s.val := by decide
      exact h ⟨s, by omega⟩
    have e2 : (255 : Int32).toBitVec = 255#32 := rfl
    have e3 : (w.toUInt32 >>> u).toInt32.toBitVec = w.toBitVec >>> s := by
      show (w.toUInt32 >>> u).toBitVec = _
      rw [UInt32.toBitVec_shiftRight]
      have : (u.toBitVec % 32).toNat = s := by
        rw [BitVec.toNat_umod]
        have : u.toBitVec.toNat = s := hu
        rw [this]
        exact Nat.mod_eq_of_lt (by show s < 32; omega)
      rw [BitVec.ushiftRight_eq', this]
      rfl
    rw [e2, e3, BitVec.sshiftRight_eq', e1]
    exact bv_byte _ _ hs
  rw [sh5 ⟨i, hi⟩]
  refine key (24 - 8 * i) (by omega) _ ?_
  rw [sh4 ⟨3 - i, by omega⟩]
  show 8 * (3 - i) = 24 - 8 * i
  omega
def rob (q g : Nat) (V : Nat → Int32) : zE := .inr (7, [.ref g, .ref (q + 1), .int (V 2), .int (V 3), .int (V 4), .int (V 5), .int (V 6), .int (V 7), .int (V 8), .ref (q + 4), .ref (q + 2), .int (V 11), .int (V 12), .int (V 13)])
def rcl (q g : Nat) (V : Nat → Int32) (B : Nat → Int32) (cz : Int32) (C : Nat → Int32) : Nat → Option zE
  | 0 => some (rob q g V)
  | 1 => some (.inl (0, 700, .inl B))
  | 2 => some (.inr (6, [.ref (q + 3), .int cz]))
  | 3 => some (.inl (0, 700, .inl C))
  | _ => none
def rset (h : zH) (q g : Nat) (V : Nat → Int32) (B : Nat → Int32) (cz : Int32) (C : Nat → Int32) : zH := rs h q 4 (rcl q g V B cz C)
theorem j4 {j : Nat} (hj : j < 4) : j = 0 ∨ j = 1 ∨ j = 2 ∨ j = 3 := by omega
section M9995
variable {h : zH} {q g N : Nat} {V B C : Nat → Int32} {cz : Int32}
theorem rs_0 : hM (rset h q g V B cz C) q = some (rob q g V) := rs_in (h := h) (a := q) (len := 4) (j := 0) (c := rcl q g V B cz C) (by omega) rfl
theorem rs_1 : hM (rset h q g V B cz C) (q + 1) = some (.inl (0, 700, .inl B)) := rs_in (h := h) (a := q) (len := 4) (j := 1) (c := rcl q g V B cz C) (by omega) rfl
theorem rs_2 : hM (rset h q g V B cz C) (q + 2) = some (.inr (6, [.ref (q + 3), .int cz])) := rs_in (h := h) (a := q) (len := 4) (j := 2) (c := rcl q g V B cz C) (by omega) rfl
theorem rs_3 : hM (rset h q g V B cz C) (q + 3) = some (.inl (0, 700, .inl C)) := rs_in (h := h) (a := q) (len := 4) (j := 3) (c := rcl q g V B cz C) (by omega) rfl
theorem rput_0 {V' : Nat → Int32} {e : zE} (he : e = rob q g V') : hPut (rset h q g V B cz C) q e = rset h q g V' B cz C := he ▸ (rs_put (h := h) (a := q) (len := 4) (j := 0) (c := rcl q g V B cz C) (by omega)).trans (rs_ext fun j hj => by rcases j4 hj with rfl | rfl | rfl | rfl <;> rfl)
theorem rput_1 {B' : Nat → Int32} : hPut (rset h q g V B cz C) (q + 1) (.inl (0, 700, .inl B')) = rset h q g V B' cz C := (rs_put (h := h) (a := q) (len := 4) (j := 1) (c := rcl q g V B cz C) (by omega)).trans (rs_ext fun j hj => by rcases j4 hj with rfl | rfl | rfl | rfl <;> rfl)
theorem rput_2 {cz' : Int32} : hPut (rset h q g V B cz C) (q + 2) (.inr (6, [.ref (q + 3), .int cz'])) = rset h q g V B cz' C := (rs_put (h := h) (a := q) (len := 4) (j := 2) (c := rcl q g V B cz C) (by omega)).trans (rs_ext fun j hj => by rcases j4 hj with rfl | rfl | rfl | rfl <;> rfl)
theorem rput_3 {C' : Nat → Int32} : hPut (rset h q g V B cz C) (q + 3) (.inl (0, 700, .inl C')) = rset h q g V B cz C' := (rs_put (h := h) (a := q) (len := 4) (j := 3) (c := rcl q g V B cz C) (by omega)).trans (rs_ext fun j hj => by rcases j4 hj with rfl | rfl | rfl | rfl <;> rfl)
theorem rg_I : gI (rset h q g V B cz C) q 7 2 = some (V 2) ∧ gI (rset h q g V B cz C) q 7 3 = some (V 3) ∧ gI (rset h q g V B cz C) q 7 4 = some (V 4) ∧ gI (rset h q g V B cz C) q 7 5 = some (V 5) ∧ gI (rset h q g V B cz C) q 7 6 = some (V 6) ∧ gI (rset h q g V B cz C) q 7 7 = some (V 7) ∧ gI (rset h q g V B cz C) q 7 8 = some (V 8) ∧ gI (rset h q g V B cz C) q 7 11 = some (V 11) ∧ gI (rset h q g V B cz C) q 7 12 = some (V 12) ∧ gI (rset h q g V B cz C) q 7 13 = some (V 13) := ⟨gI_of' rs_0 rfl, gI_of' rs_0 rfl, gI_of' rs_0 rfl, gI_of' rs_0 rfl, gI_of' rs_0 rfl, gI_of' rs_0 rfl, gI_of' rs_0 rfl, gI_of' rs_0 rfl, gI_of' rs_0 rfl, gI_of' rs_0 rfl⟩
theorem rg_A : gA (rset h q g V B cz C) q 7 0 = some g ∧ gA (rset h q g V B cz C) q 7 1 = some (q + 1) ∧ gA (rset h q g V B cz C) q 7 9 = some (q + 4) ∧ gA (rset h q g V B cz C) q 7 10 = some (q + 2) ∧ gA (rset h q g V B cz C) (q + 2) 6 0 = some (q + 3) ∧ gI (rset h q g V B cz C) (q + 2) 6 1 = some cz := ⟨gA_of' rs_0 rfl, gA_of' rs_0 rfl, gA_of' rs_0 rfl, gA_of' rs_0 rfl, gA_of' rs_2 rfl, gI_of' rs_2 rfl⟩
theorem rp_2 (x : Int32) : pF (rset h q g V B cz C) q 7 2 (.int x) = some (rset h q g (upd V 2 x) B cz C) := (pF_of' rs_0 (by show 2 < 14; omega)).trans (congrArg some (rput_0 (V' := upd V 2 x) rfl))
theorem rp_3 (x : Int32) : pF (rset h q g V B cz C) q 7 3 (.int x) = some (rset h q g (upd V 3 x) B cz C) := (pF_of' rs_0 (by show 3 < 14; omega)).trans (congrArg some (rput_0 (V' := upd V 3 x) rfl))
theorem rp_4 (x : Int32) : pF (rset h q g V B cz C) q 7 4 (.int x) = some (rset h q g (upd V 4 x) B cz C) := (pF_of' rs_0 (by show 4 < 14; omega)).trans (congrArg some (rput_0 (V' := upd V 4 x) rfl))
theorem rp_5 (x : Int32) : pF (rset h q g V B cz C) q 7 5 (.int x) = some (rset h q g (upd V 5 x) B cz C) := (pF_of' rs_0 (by show 5 < 14; omega)).trans (congrArg some (rput_0 (V' := upd V 5 x) rfl))
theorem rp_6 (x : Int32) : pF (rset h q g V B cz C) q 7 6 (.int x) = some (rset h q g (upd V 6 x) B cz C) := (pF_of' rs_0 (by show 6 < 14; omega)).trans (congrArg some (rput_0 (V' := upd V 6 x) rfl))
theorem rp_7 (x : Int32) : pF (rset h q g V B cz C) q 7 7 (.int x) = some (rset h q g (upd V 7 x) B cz C) := (pF_of' rs_0 (by show 7 < 14; omega)).trans (congrArg some (rput_0 (V' := upd V 7 x) rfl))
theorem rp_8 (x : Int32) : pF (rset h q g V B cz C) q 7 8 (.int x) = some (rset h q g (upd V 8 x) B cz C) := (pF_of' rs_0 (by show 8 < 14; omega)).trans (congrArg some (rput_0 (V' := upd V 8 x) rfl))
theorem rp_11 (x : Int32) : pF (rset h q g V B cz C) q 7 11 (.int x) = some (rset h q g (upd V 11 x) B cz C) := (pF_of' rs_0 (by show 11 < 14; omega)).trans (congrArg some (rput_0 (V' := upd V 11 x) rfl))
theorem rp_12 (x : Int32) : pF (rset h q g V B cz C) q 7 12 (.int x) = some (rset h q g (upd V 12 x) B cz C) := (pF_of' rs_0 (by show 12 < 14; omega)).trans (congrArg some (rput_0 (V' := upd V 12 x) rfl))
theorem rp_13 (x : Int32) : pF (rset h q g V B cz C) q 7 13 (.int x) = some (rset h q g (upd V 13 x) B cz C) := (pF_of' rs_0 (by show 13 < 14; omega)).trans (congrArg some (rput_0 (V' := upd V 13 x) rfl))
theorem rp_I : (∀ x : Int32, pF (rset h q g V B cz C) q 7 2 (.int x) = some (rset h q g (upd V 2 x) B cz C)) ∧ (∀ x : Int32, pF (rset h q g V B cz C) q 7 3 (.int x) = some (rset h q g (upd V 3 x) B cz C)) ∧ (∀ x : Int32, pF (rset h q g V B cz C) q 7 4 (.int x) = some (rset h q g (upd V 4 x) B cz C)) ∧ (∀ x : Int32, pF (rset h q g V B cz C) q 7 5 (.int x) = some (rset h q g (upd V 5 x) B cz C)) ∧ (∀ x : Int32, pF (rset h q g V B cz C) q 7 6 (.int x) = some (rset h q g (upd V 6 x) B cz C)) ∧ (∀ x : Int32, pF (rset h q g V B cz C) q 7 7 (.int x) = some (rset h q g (upd V 7 x) B cz C)) ∧ (∀ x : Int32, pF (rset h q g V B cz C) q 7 8 (.int x) = some (rset h q g (upd V 8 x) B cz C)) ∧ (∀ x : Int32, pF (rset h q g V B cz C) q 7 11 (.int x) = some (rset h q g (upd V 11 x) B cz C)) ∧ (∀ x : Int32, pF (rset h q g V B cz C) q 7 12 (.int x) = some (rset h q g (upd V 12 x) B cz C)) ∧ (∀ x : Int32, pF (rset h q g V B cz C) q 7 13 (.int x) = some (rset h q g (upd V 13 x) B cz C)) := ⟨rp_2, rp_3, rp_4, rp_5, rp_6, rp_7, rp_8, rp_11, rp_12, rp_13⟩
theorem rp_z (x : Int32) : pF (rset h q g V B cz C) (q + 2) 6 1 (.int x) = some (rset h q g V B x C) := (pF_of' rs_2 (by show 1 < 2; omega)).trans (congrArg some rput_2)
theorem r_ldB {i : Nat} (hi : i < 700) : ldI (rset h q g V B cz C) (q + 1) (nI i) = some (B i) := ldI_of' rs_1 hi (by omega)
theorem r_stB {i : Nat} {v : Int32} (hi : i < 700) : stI (rset h q g V B cz C) (q + 1) (nI i) v = some (rset h q g V (upd B i v) cz C) := (stI_of' rs_1 hi (by omega)).trans (congrArg some rput_1)
theorem r_ldC {i : Nat} (hi : i < 700) : ldI (rset h q g V B cz C) (q + 3) (nI i) = some (C i) := ldI_of' rs_3 hi (by omega)
theorem r_stC {i : Nat} {v : Int32} (hi : i < 700) : stI (rset h q g V B cz C) (q + 3) (nI i) v = some (rset h q g V B cz (upd C i v)) := (stI_of' rs_3 hi (by omega)).trans (congrArg some rput_3)
theorem r_lenC : aLen (rset h q g V B cz C) (q + 3) = some (nI 700) := aLen_of' rs_3 (by omega)
theorem r_o7 {β : Type} {G : Option β} : onO 7 q (rset h q g V B cz C) G = G := onO_of' rs_0
theorem r_o6 {β : Type} {G : Option β} : onO 6 (q + 2) (rset h q g V B cz C) G = G := onO_of' rs_2
def appB (B : Nat → Int32) (z : Nat) (f : Nat → Int32) (k : Nat) : Nat → Int32 := fun i => if z ≤ i ∧ i < z + k then f (i - z) else B i
theorem appB_0 (B : Nat → Int32) (z : Nat) (f : Nat → Int32) : appB B z f 0 = B := funext fun i => if_neg (by omega)
theorem appB_step (B : Nat → Int32) (z : Nat) (f : Nat → Int32) (k : Nat) : upd (appB B z f k) (z + k) (f k) = appB B z f (k + 1) := by
  funext i
  unfold appB
  by_cases hi : i = z + k
  · subst hi
    rw [upS_eq, if_pos (by omega), show z + k - z = k by omega]
  · rw [upS_ne hi]
    by_cases h2 : z ≤ i ∧ i < z + k
    · rw [if_pos h2, if_pos (by omega)]
    · rw [if_neg h2, if_neg (by omega)]
theorem x_addWord {w : Int32} {z k : Nat} {f : Nat → Int32} (hNN : 10 < N) (hV : V 2 = nI (z + k)) (hz : z + k + 4 ≤ 700) (hf : ∀ j, j < 4 → f (k + j) = nI (byteN w (3 - j))) : f_X7_addWord N q w (rset h q g V (appB B z f k) cz C) = some (rset h q g (upd V 2 (nI (z + (k + 4)))) (appB B z f (k + 4)) cz C) := by
  have e3 : nI 3 + -nI 1 = nI 2 := npred 2
  have e2 : nI 2 + -nI 1 = nI 1 := npred 1
  have e1 : nI 1 + -nI 1 = nI 0 := npred 0
  have m1 : (nI 0 + -nI 1 < nI 0) = True := eq_true (by decide)
  have b3 := x_byte (w := w) (i := 3) (by omega)
  have b2' := x_byte (w := w) (i := 2) (by omega)
  have b1 := x_byte (w := w) (i := 1) (by omega)
  have b0' := x_byte (w := w) (i := 0) (by omega)
  have f0 := hf 0 (by omega)
  have f1 := hf 1 (by omega)
  have f2 := hf 2 (by omega)
  have f3 := hf 3 (by omega)
  rw [Nat.add_zero] at f0
  simp only [nlit] at b3 b2' b1 b0'
  have key : ∀ n, f_X7_addWord_l2 N q w (n + 1 + 1 + 1 + 1 + 1) (nI 3) (rset h q g V (appB B z f k) cz C) = some (rset h q g (upd V 2 (nI (z + (k + 4)))) (appB B z f (k + 4)) cz C) := by
    intro n
    rw [show k + 4 = k + 1 + 1 + 1 + 1 from rfl, ← appB_step B z f (k + 1 + 1 + 1), ← appB_step B z f (k + 1 + 1), ← appB_step B z f (k + 1), ← appB_step B z f k]
    rw [f0, show f (k + 1) = nI (byteN w 2) from f1, show f (k + 1 + 1) = nI (byteN w 1) from f2, show f (k + 1 + 1 + 1) = nI (byteN w 0) from f3]
    have u : ∀ (n : Nat) (v2 : Int32) (h : zH), f_X7_addWord_l2 N q w (n + 1) v2 h = if v2 < 0 then some h else (gI h q 7 2).bind fun x1 => zjn (fun (v2 : Int32) (h : zH) => f_X7_addWord_l2 N q w n (v2 + (-1 : Int32)) h) (fun (j52 : Int32 → zH → Option (zH)) => if x1 < 0 then j52 v2 h else (gI h q 7 2).bind fun x2 => if (700 : Int32) ≤ x2 then j52 v2 h else (gA h q 7 1).bind fun x3 => (gI h q 7 2).bind fun x4 => (stI h x3 x4 ((w.toUInt32 >>> (((8 : Int32) * v2).toUInt32 &&& Int32.toUInt32 31)).toInt32 &&& (255 : Int32))).bind fun h5 => (gI h5 q 7 2).bind fun x6 => (pF h5 q 7 2 (.int (x6 + (1 : Int32)))).bind fun h7 => j52 v2 h7) := fun n v2 h => rfl
    rw [u]
    simp (disch := omega) only [zjn, nlit, nltF, nleF, rg_I, rg_A, hV, b3, r_stB, rp_I, nadd, e3, ↓reduceIte, Option.bind_some]
    rw [u]
    simp (disch := omega) only [zjn, nlit, nltF, nleF, rg_I, rg_A, upS_eq, b2', r_stB, rp_I, nadd, e2, upS_upS, ↓reduceIte, Option.bind_some]
    rw [u]
    simp (disch := omega) only [zjn, nlit, nltF, nleF, rg_I, rg_A, upS_eq, b1, r_stB, rp_I, nadd, e1, upS_upS, ↓reduceIte, Option.bind_some]
    rw [u]
    simp (disch := omega) only [zjn, nlit, nltF, nleF, rg_I, rg_A, upS_eq, b0', r_stB, rp_I, nadd, upS_upS, ↓reduceIte, Option.bind_some]
    rw [u]
    simp (disch := omega) only [nlit, m1, ↓reduceIte]
    rfl
  obtain ⟨n, hn⟩ : ∃ n, N = n + 1 + 1 + 1 + 1 + 1 := ⟨N - 5, by omega⟩
  have k1 := key n
  rw [← hn] at k1
  exact k1
end M9995
def selW (p1 p2 p3 p4 p5 : Int32) (k : Nat) : Int32 := if k < 4 then p1 else if k < 8 then p2 else if k < 12 then p3 else if k < 16 then p4 else p5
def bytF (p1 p2 p3 p4 p5 : Int32) (k : Nat) : Int32 := nI (byteN (selW p1 p2 p3 p4 p5 k) (3 - k % 4))
section M9995m
variable {h : zH} {m N : Nat} {S B E : Nat → Int32} {H : Nat → Nat → Int32} {J : Nat → Int64} {L U Z W : Nat → Int32} {d : Nat → Nat} {p1 p2 p3 p4 p5 : Int32}
end M9995m
section M9995p
variable {h h' h1 : zH} {b0 K N q z : Nat} {ea : Int32} {d : Nat → Nat} {t : Nat → Nat} {hd : Nat → Nat → Nat} {hK : Nat → Nat} {ht : Nat → Nat → Nat} {B : Nat → Int32} {V C : Nat → Int32} {cz : Int32}
theorem Rdr_self (hR : RdrAt b0 h z B) : ∃ (V C : Nat → Int32) (cz : Int32), V 2 = nI z ∧ rset h (b0 + 4) (b0 + 1) V B cz C = h := by
  obtain ⟨v, cz, C, h1, h2, h3, h4⟩ := hR
  refine ⟨upd v 2 (nI z), C, cz, upS_eq _ _ _, rs_self fun j e hj hc => ?_⟩
  rcases j4 hj with rfl | rfl | rfl | rfl
  · cases hc
    exact h1
  · cases hc; exact h2
  · cases hc; exact h3
  · cases hc; exact h4
theorem RdrAt_rs (hV : V 2 = nI z) : RdrAt b0 (rset h (b0 + 4) (b0 + 1) V B cz C) z B := by
  refine ⟨V, cz, C, ?_, rs_1, rs_2, rs_3⟩
  have := rs_0 (h := h) (q := b0 + 4) (g := b0 + 1) (V := V) (B := B) (cz := cz) (C := C)
  rw [this]
  unfold rob rdO
  rw [hV]
/-- the reader's own cells changed -/
theorem WC_rset {z' : Nat} {B' : Nat → Int32} (hW : WC b0 h (d, K, t, (q, hd, hK, ht), ea, z, B)) (hV : V 2 = nI z') (hz : z' ≤ 700) (hB : ∀ k, k < z' → ∃ v, v < 256 ∧ B' k = nI v) : WC b0 (rset h (b0 + 4) (b0 + 1) V B' cz C) (d, K, t, (q, hd, hK, ht), ea, z', B') := by
  obtain ⟨⟨⟨w1, w2, w3⟩, w4, w5, w6, w7, w8⟩, ⟨a1, a2, a3⟩, w9, w10⟩ := hW
  have fr : ∀ q, q < b0 + 4 ∨ b0 + 8 ≤ q → hM (rset h (b0 + 4) (b0 + 1) V B' cz C) q = hM h q := fun q hq => rs_out (by omega)
  have rr : ∀ rl k, RAd b0 h rl → k < 3 → simc h (rset h (b0 + 4) (b0 + 1) V B' cz C) (rl + k) := by
    intro rl k hr hk
    have := RAd_ge hr
    exact Or.inl (fr _ (by omega))
  exact ⟨⟨⟨(fr _ (by omega)).trans w1, GrpAt_sim w2 (fun k hk => Or.inl (fr _ (by omega))), w3⟩, RdrAt_rs hV, HanAt_sim w5 (fun q _ _ => Or.inl (fr q (by omega))), AucRaw_sim w6 (fun q _ _ => Or.inl (fr q (by omega))), RuleAt_sim w7 (fun k hk => Or.inl (fr _ (by omega))), hz, hB⟩, ⟨AucAt_sim a1 (Nat.le_refl _) (fun q _ _ => Or.inl (fr q (by omega))) rr, a2, a3⟩, HisAt_sim w9 (Nat.le_refl _) (fun q _ _ => Or.inl (fr q (by omega))) rr, w10⟩
end M9995p

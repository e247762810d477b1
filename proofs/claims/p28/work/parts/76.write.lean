/-! ===== the law writes ===== -/
def wrW (b0 bu : Nat) : Nat → Prop := fun x => clW b0 x ∨ x = bu
def wdW (L : List Nat) (base k : Nat) : Nat := L.getD (base + 4 * k) 0 * 2 ^ 24 + L.getD (base + 4 * k + 1) 0 * 2 ^ 16 + L.getD (base + 4 * k + 2) 0 * 2 ^ 8 + L.getD (base + 4 * k + 3) 0
def BufAt (h : zH) (bu : Nat) (L : List Nat) (base : Nat) : Prop := ∃ f : Nat → Int32, hM h bu = some (.inl (0, 8, .inl f)) ∧ f 0 = nI L.length ∧ ∀ k, k < 5 → f (1 + k) = nI (wdW L base k)
section M76
variable {M W : Nat → Prop} {h h' : zH} {b0 bu K N z m : Nat} {ea : Int32} {d : Nat → Nat} {t : Nat → Nat} {yy : Nat × (Nat → Nat → Nat) × (Nat → Nat) × (Nat → Nat → Nat)} {B : Nat → Int32} {L S : List Nat} {c : Nat}
theorem C_append (hNN : 1000 < N) (hW : WC b0 h (d, K, t, yy, ea, z, B)) (p1 p2 p3 p4 p5 : Int32) (hz : z + 20 ≤ 700) : ∃ h', f_X8_append N b0 p1 p2 p3 p4 p5 h = some (nI (z + 20), h') ∧ WC b0 h' (d, K, t, yy, ea, z + 20, appB B z (bytF p1 p2 p3 p4 p5) 20) ∧ FC (clW b0) 0 0 h h' := by
  obtain ⟨q, hd, hK, ht⟩ := yy
  obtain ⟨⟨⟨hGo, hG, hS0⟩, hBr⟩, ⟨hA, hD, hC⟩, hH, hHG⟩ := id hW
  have hGo : Gob b0 h ea := hGo
  have e2 : (nI 1 = nI 0) = False := eq_false (by decide)
  obtain ⟨hRd, -, -, -, hz7, hBy⟩ := hBr
  obtain ⟨V, C, cz, hV, hrs⟩ := Rdr_self hRd
  have g2 : ∀ (V B : Nat → Int32), Gob b0 (rset h (b0 + 4) (b0 + 1) V B cz C) ea := fun V B => (rs_out (by omega)).trans hGo
  have o8 : ∀ (V B : Nat → Int32), gA (rset h (b0 + 4) (b0 + 1) V B cz C) b0 8 1 = some (b0 + 4) := fun V B => w_g1 (g2 V B)
  have hw : ∀ (V B : Nat → Int32) (k : Nat) (w : Int32), V 2 = nI (z + k) → k + 4 ≤ 20 → (∀ j, j < 4 → bytF p1 p2 p3 p4 p5 (k + j) = nI (byteN w (3 - j))) → f_X7_addWord N (b0 + 4) w (rset h (b0 + 4) (b0 + 1) V (appB B z (bytF p1 p2 p3 p4 p5) k) cz C) = some (rset h (b0 + 4) (b0 + 1) (upd V 2 (nI (z + (k + 4)))) (appB B z (bytF p1 p2 p3 p4 p5) (k + 4)) cz C) := fun V B k w hv hk hf => x_addWord (by omega) hv (by omega) hf
  have c1 := hw V B 0 p1 hV (by omega) (fun j hj => by unfold bytF selW; rw [if_pos (by omega), show (0 + j) % 4 = j by omega])
  rw [appB_0] at c1
  have c2 := hw (upd V 2 (nI (z + (0 + 4)))) B (0 + 4) p2 (upS_eq _ _ _) (by omega) (fun j hj => by unfold bytF selW; rw [if_neg (by omega), if_pos (by omega), show (0 + 4 + j) % 4 = j by omega])
  have c3 := hw (upd V 2 (nI (z + (0 + 4 + 4)))) B (0 + 4 + 4) p3 (upS_eq _ _ _) (by omega) (fun j hj => by unfold bytF selW; rw [if_neg (by omega), if_neg (by omega), if_pos (by omega), show (0 + 4 + 4 + j) % 4 = j by omega])
  have c4 := hw (upd V 2 (nI (z + (0 + 4 + 4 + 4)))) B (0 + 4 + 4 + 4) p4 (upS_eq _ _ _) (by omega) (fun j hj => by unfold bytF selW; rw [if_neg (by omega), if_neg (by omega), if_neg (by omega), if_pos (by omega), show (0 + 4 + 4 + 4 + j) % 4 = j by omega])
  have c5 := hw (upd V 2 (nI (z + (0 + 4 + 4 + 4 + 4)))) B (0 + 4 + 4 + 4 + 4) p5 (upS_eq _ _ _) (by omega) (fun j hj => by unfold bytF selW; rw [if_neg (by omega), if_neg (by omega), if_neg (by omega), if_neg (by omega), show (0 + 4 + 4 + 4 + 4 + j) % 4 = j by omega])
  rw [upS_upS] at c2 c3 c4 c5
  refine ⟨rset h (b0 + 4) (b0 + 1) (upd V 2 (nI (z + 20))) (appB B z (bytF p1 p2 p3 p4 p5) 20) cz C, ?_, WC_rset hW (upS_eq _ _ _) hz (fun k hk => ?_), ⟨⟨Nat.le_refl _, Nat.le_refl _⟩, ⟨Nat.le_refl _, Nat.le_refl _⟩, fun x _ hx => Or.inl (rs_out (Classical.byContradiction fun h9 => hx ⟨by omega, by omega⟩))⟩⟩
  · have k0 : f_X8_append N b0 p1 p2 p3 p4 p5 (rset h (b0 + 4) (b0 + 1) V B cz C) = some (nI (z + 20), rset h (b0 + 4) (b0 + 1) (upd V 2 (nI (z + 20))) (appB B z (bytF p1 p2 p3 p4 p5) 20) cz C) := by
      simp (disch := omega) only [f_X8_append, f_X7_hasRoomForFiveWords, f_X7_textLength, rg_I, o8, r_o7, hV, c1, c2, c3, c4, c5, upS_eq, nlit, nltF, nadd, e2, ↓reduceIte, Option.bind_some]
    rw [hrs] at k0
    exact k0
  · unfold appB
    by_cases hk2 : z ≤ k ∧ k < z + 20
    · rw [if_pos hk2]
      exact ⟨_, byteN_lt _ _, rfl⟩
    · rw [if_neg hk2]
      exact hBy k (by omega)
/-- packed bytes -/
theorem shl_ok : ∀ c : Fin 256, ∀ j : Fin 4, nI c.val <<< (((24 : Int32) - ((8 : Int32) * nI j.val)) &&& 31) = nI (c.val * 2 ^ (24 - 8 * j.val)) := by decide +kernel
theorem or_add {a i D : Nat} (hD : D < 2 ^ i) (hs : 2 ^ i * a + D < 2 ^ 32) : nI (2 ^ i * a) ||| nI D = nI (2 ^ i * a + D) := by
  apply ux_inj
  rw [ux_nI hs]
  unfold ux
  rw [Int32.toUInt32_or, UInt32.toNat_or]
  have e1 := ux_nI (v := 2 ^ i * a) (by omega)
  have e2 := ux_nI (v := D) (by omega)
  unfold ux at e1 e2
  rw [e1, e2]
  exact (Nat.two_pow_add_eq_or_of_lt hD a).symm
theorem byt_w {a b c e : Nat} (ha : a < 256) (hb : b < 256) (hc : c < 256) (he : e < 256) : ∀ j, j < 4 → byteN (nI (a * 2 ^ 24 + b * 2 ^ 16 + c * 2 ^ 8 + e)) (3 - j) = (if j = 0 then a else if j = 1 then b else if j = 2 then c else e) := by
  intro j hj
  unfold byteN
  rw [ux_nI (by omega)]
  rcases (show j = 0 ∨ j = 1 ∨ j = 2 ∨ j = 3 by omega) with rfl | rfl | rfl | rfl
  · rw [if_pos rfl]
    show (a * 2 ^ 24 + b * 2 ^ 16 + c * 2 ^ 8 + e) / 2 ^ 24 % 256 = a
    omega
  · rw [if_neg (by omega), if_pos rfl]
    show (a * 2 ^ 24 + b * 2 ^ 16 + c * 2 ^ 8 + e) / 2 ^ 16 % 256 = b
    omega
  · rw [if_neg (by omega), if_neg (by omega), if_pos rfl]
    show (a * 2 ^ 24 + b * 2 ^ 16 + c * 2 ^ 8 + e) / 2 ^ 8 % 256 = c
    omega
  · rw [if_neg (by omega), if_neg (by omega), if_neg (by omega)]
    show (a * 2 ^ 24 + b * 2 ^ 16 + c * 2 ^ 8 + e) / 2 ^ 0 % 256 = e
    omega
theorem getD_out {i : Nat} (hi : L.length ≤ i) : L.getD i 0 = 0 := by
  rw [List.getD_eq_getElem?_getD, List.getElem?_eq_none hi]
  rfl
theorem getD_snoc {i : Nat} : (L ++ [c]).getD i 0 = if i = L.length then c else L.getD i 0 := by
  by_cases h1 : i < L.length
  · rw [if_neg (by omega), getD_l h1]
  · by_cases h2 : i = L.length
    · rw [if_pos h2, h2]
      have := getD_r (A := L) (B := [c]) (i := 0)
      rw [Nat.add_zero] at this
      rw [this]; rfl
    · rw [if_neg h2, getD_out (by rw [List.length_append]; show L.length + 1 ≤ i; omega), getD_out (by omega)]
def AllB (L : List Nat) : Prop := ∀ i, L.getD i 0 < 256
theorem AllB_snoc (hL : AllB L) (hc : c < 256) : AllB (L ++ [c]) := fun i => by
  rw [getD_snoc]
  split
  · exact hc
  · exact hL i
theorem wd_byte (hL : AllB L) {base k j : Nat} (hj : j < 4) : byteN (nI (wdW L base k)) (3 - j) = L.getD (base + 4 * k + j) 0 := by
  unfold wdW
  rw [byt_w (hL _) (hL _) (hL _) (hL _) j hj]
  rcases (show j = 0 ∨ j = 1 ∨ j = 2 ∨ j = 3 by omega) with rfl | rfl | rfl | rfl <;> rfl
theorem wdW_snoc {base k : Nat} (hb : base ≤ L.length) (hl : L.length < base + 20) : wdW (L ++ [c]) base k = wdW L base k + (if k = (L.length - base) / 4 then c * 2 ^ (24 - 8 * ((L.length - base) % 4)) else 0) := by
  unfold wdW
  rw [getD_snoc, getD_snoc, getD_snoc, getD_snoc]
  have ho : ∀ i, L.length ≤ i → L.getD i 0 = 0 := fun i hi => getD_out hi
  by_cases hk : k = (L.length - base) / 4
  · rw [if_pos hk]
    have hm : (L.length - base) % 4 < 4 := Nat.mod_lt _ (by omega)
    rcases (show (L.length - base) % 4 = 0 ∨ (L.length - base) % 4 = 1 ∨ (L.length - base) % 4 = 2 ∨ (L.length - base) % 4 = 3 by omega) with h0 | h0 | h0 | h0 <;> rw [h0]
    · rw [if_pos (by omega), if_neg (by omega), if_neg (by omega), if_neg (by omega), ho (base + 4 * k) (by omega)]
      show c * 2 ^ 24 + _ + _ + _ = 0 * 2 ^ 24 + _ + _ + _ + c * 2 ^ 24
      omega
    · rw [if_neg (by omega), if_pos (by omega), if_neg (by omega), if_neg (by omega), ho (base + 4 * k + 1) (by omega)]
      show _ + c * 2 ^ 16 + _ + _ = _ + 0 * 2 ^ 16 + _ + _ + c * 2 ^ 16
      omega
    · rw [if_neg (by omega), if_neg (by omega), if_pos (by omega), if_neg (by omega), ho (base + 4 * k + 2) (by omega)]
      show _ + _ + c * 2 ^ 8 + _ = _ + _ + 0 * 2 ^ 8 + _ + c * 2 ^ 8
      omega
    · rw [if_neg (by omega), if_neg (by omega), if_neg (by omega), if_pos (by omega), ho (base + 4 * k + 3) (by omega)]
      show _ + _ + _ + c = _ + _ + _ + 0 + c * 2 ^ 0
      omega
  · rw [if_neg hk, if_neg (by omega), if_neg (by omega), if_neg (by omega), if_neg (by omega)]
    omega
/-- the word that takes the next byte is a multiple -/
theorem wdW_mul {base : Nat} (hb : base ≤ L.length) (hl : L.length < base + 20) : ∃ a, wdW L base ((L.length - base) / 4) = 2 ^ (32 - 8 * ((L.length - base) % 4)) * a := by
  have ho : ∀ i, L.length ≤ i → L.getD i 0 = 0 := fun i hi => getD_out hi
  unfold wdW
  have hm : (L.length - base) % 4 < 4 := Nat.mod_lt _ (by omega)
  generalize hx : base + 4 * ((L.length - base) / 4) = x
  rcases (show (L.length - base) % 4 = 0 ∨ (L.length - base) % 4 = 1 ∨ (L.length - base) % 4 = 2 ∨ (L.length - base) % 4 = 3 by omega) with h0 | h0 | h0 | h0 <;> rw [h0]
  · rw [ho x (by omega), ho (x + 1) (by omega), ho (x + 2) (by omega), ho (x + 3) (by omega)]
    exact ⟨0, rfl⟩
  · rw [ho (x + 1) (by omega), ho (x + 2) (by omega), ho (x + 3) (by omega)]
    refine ⟨L.getD x 0, ?_⟩
    show _ = 2 ^ 24 * _
    omega
  · rw [ho (x + 2) (by omega), ho (x + 3) (by omega)]
    refine ⟨L.getD x 0 * 256 + L.getD (x + 1) 0, ?_⟩
    show _ = 2 ^ 16 * _
    omega
  · rw [ho (x + 3) (by omega)]
    refine ⟨L.getD x 0 * 65536 + L.getD (x + 1) 0 * 256 + L.getD (x + 2) 0, ?_⟩
    show _ = 2 ^ 8 * _
    omega
end M76

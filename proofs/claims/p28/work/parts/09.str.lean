section ZSTR
variable {Γ : zG} {X : zX} {d : Nat} {h0 : zH} {o : zR × zH} {pc : Nat} {lv : List (Nat × Value)} {st : List Value} {h : zH}
/-- a return of a small type -/
theorem z_nret {v : Int32} {ty : FieldType} (hd : decode (zcc X) pc = .ok (.ireturn, 1)) (hrt : zrt X = some ty) (hn : narrow ty (.int v) = .int v) (ho : o = (.inl (some (.int v)), h)) : Z Γ X d h0 o pc lv [.int v] h := by
  subst ho
  exact ⟨zle.rf, fun hle p l e R s m args below meth c H locs ls C hRp hSv hl => vx_ret (W.zret C.1 C.2.1 (C.2.2.1.trans hrt) hn (fun t ht hW => ⟨⟨_, rfl, rfl⟩, by rw [ht]; exact hRp, hSv.F ht⟩) hSv.2.2 hd C.2.2.2.2.2.2.2.1)⟩
theorem z_i2c {x : Int32} (hd : decode (zcc X) pc = .ok (.i2c, 1)) (kk : Z Γ X d h0 o (pc + 1) lv (.int (x.toUInt32 % 65536).toInt32 :: st) h) : Z Γ X d h0 o pc lv (.int x :: st) h := Z.go (fun C hl w => lv_i2c C.1 C.2.1 hd rfl w) kk
/-- a call on a constant String -/
theorem z_callStr {index n i d' : Nat} (hi : i < 20) {Y : zX} {v : Value} {As rest : List Value} (hY : Y.1.cls = RJ0) (hd : decode (zcc X) pc = .ok (.invokevirtual index, 3)) (hL : zLV X.1.cls index Y n) (hMt : Zm Γ Y d' (.ref (zKa Γ i) :: As) h (.inl (some v), h)) (hdd : d' + 1 ≤ d) (hn : As.length = n) (hst0 : st = As.reverse ++ .ref (zKa Γ i) :: rest) (hst : (rest.map fun v => v.category).sum ≤ 8)
    (kk : Z Γ X d h0 o (pc + 3) lv (v :: rest) h) : Z Γ X d h0 o pc lv st h := by
  obtain ⟨hhh, w1, w2, w3, w4, w5, hdsc, hml21⟩ := hL
  have hle2 : zle h o.2 := kk.1
  refine ⟨zle.tr hMt.1 hle2, fun hle p l e R s m args below meth c H locs ls C hRp hSv hl => ?_⟩
  obtain ⟨hx, hb0, hrt, hml, hown, hname, hts, hlocks, hKK, hl9, hR1, hR2, hR3, hR4, hR0, htab, hzle⟩ := id C
  have hMl := hMt.2 l hl9
  rw [if_pos hhh] at hMl
  have hle1 : zle h h := hMt.1
  obtain ⟨cellB, g1, g2, g3⟩ := vk_recv (hKK.2.2.2.2.1) hi hSv
  subst hst0
  obtain ⟨g5, g6⟩ := hle1
  obtain ⟨g7, g8⟩ := hle
  obtain ⟨g9, g10⟩ := hle2
  refine z_back (r := .inl (some v)) (h1 := h) (av := (Value.ref (zKa Γ i) :: As).toArray) ⟨g5, g6⟩ ⟨g7, g8⟩ C hSv hl (vx_runV (As := As) (rest := rest) ⟨hx, hb0, hml, hown, hts⟩ hMl (cwV n hts (z_good hhh w1 w2 w3 w4 w5) rfl rfl rfl ⟨rfl, hdsc⟩ ⟨by show d' + 1 ≤ R.frames; omega, by show 8 + (zml Y + 11) + 40 * d' ≤ R.locals; omega⟩) ⟨z_blind, ⟨cellB, g1, g2, by rw [hY]; exact g3⟩, fun U hU hW => ⟨rfl, by rw [hU]; exact hRp, ?_⟩⟩ rfl hn hl.1 rfl (lv_room hst) hd ⟨by show hS h - hS h0 + (hS h - hS h) ≤ R.cells; omega, by show hN h - hN h0 + (hN h - hN h) ≤ R.slots; omega⟩) (fun v' hv' => by cases hv'; exact kk) (fun k hk => by cases hk)
  exact zKK.warm hW (by rw [hU]; exact hSv.1) (fun q h1 h2 => by rw [hU]; exact hSv.2.1 q h1 h2) hKK
theorem z_callS1 {index n d' : Nat} {Y : zX} {v : Option Value} {As rest : List Value} (hd : decode (zcc X) pc = .ok (.invokestatic index, 3)) (hL : zLS X.1.cls index Y n) (hMt : Zm Γ Y d' As h (.inl v, h)) (hdd : d' + 1 ≤ d) (hn : As.length = n) (hst0 : st = As.reverse ++ rest) (hst : (rest.map fun v => v.category).sum ≤ 8)
    (kk : Z Γ X d h0 o (pc + 3) lv (v.toList ++ rest) h) : Z Γ X d h0 o pc lv st h := z_callS hd hL hMt hdd hn hst0 hst (fun v' hv' => by cases hv'; exact kk) (fun k hk => by cases hk)
theorem z_iflt' {x : Int32} {off : Int} (hx : ¬ x < 0) (hd : decode (zcc X) pc = .ok (.ifCond .lt off, 3)) (tgt : Nat) (ht : (pc : Int) + off = (tgt : Int)) (kk : Z Γ X d h0 o (pc + 3) lv st h) : Z Γ X d h0 o pc lv (.int x :: st) h := Z.go (fun C hl w => lv_if_lt C.1 C.2.1 hd ht (fun hp => absurd hp hx) (fun _ => w)) kk
theorem z_icmplt' {x y : Int32} {off : Int} (hx : x < y) (hd : decode (zcc X) pc = .ok (.if_icmp .lt off, 3)) (tgt : Nat) (ht : (pc : Int) + off = (tgt : Int)) (kk : Z Γ X d h0 o tgt lv st h) : Z Γ X d h0 o pc lv (.int y :: .int x :: st) h := Z.go (fun C hl w => lv_icmp_lt C.1 C.2.1 hd ht (fun _ => w) (fun hp => absurd hx hp)) kk
theorem z_ifeq' {x : Int32} {off : Int} (hx : ¬ x = 0) (hd : decode (zcc X) pc = .ok (.ifCond .eq off, 3)) (tgt : Nat) (ht : (pc : Int) + off = (tgt : Int)) (kk : Z Γ X d h0 o (pc + 3) lv st h) : Z Γ X d h0 o pc lv (.int x :: st) h := Z.go (fun C hl w => lv_if_eq C.1 C.2.1 hd ht (fun hp => absurd hp hx) (fun _ => w)) kk
theorem z_ifne' {off : Int} (hd : decode (zcc X) pc = .ok (.ifCond .ne off, 3)) (tgt : Nat) (ht : (pc : Int) + off = (tgt : Int)) (kk : Z Γ X d h0 o (pc + 3) lv st h) : Z Γ X d h0 o pc lv (.int 0 :: st) h := Z.go (fun C hl w => lv_if_ne C.1 C.2.1 hd ht (fun hp => absurd rfl hp) (fun _ => w)) kk
end ZSTR
section ZSTRM
variable {Γ : zG} {d : Nat} {h : zH}
theorem zs_pre (hd : 2 ≤ d) {x n : Int32} {v : Value} (hv : v = .null ∨ ∃ t, v = .ref t) (h0 : ¬ x < 0) (h1 : x < n) : Zm Γ m_J3_checkIndex_8e157 d [.int x, .int n, v] h (.inl (some (.int x)), h) := by
  refine z_meth rfl (plainFor_of_name (by decide +kernel)) (by rcases hv with rfl | ⟨t, rfl⟩ <;> simp [lg_sl, Value.category, zml, m_J3_checkIndex_8e157]) ?_
  have e : lv_args 0 [Value.int x, .int n, v] = [(0, .int x), (1, .int n), (2, v)] := by rcases hv with rfl | ⟨t, rfl⟩ <;> rfl
  rw [e]
  refine z_iload_n 0 dJ3_checkIndex_8e157_0 rfl rfl ?_
  refine z_iflt' h0 dJ3_checkIndex_8e157_1 9 (by decide) ?_
  refine z_iload_n 0 dJ3_checkIndex_8e157_4 rfl rfl ?_
  refine z_iload_n 1 dJ3_checkIndex_8e157_5 rfl rfl ?_
  refine z_icmplt' h1 dJ3_checkIndex_8e157_6 16 (by decide) ?_
  refine z_iload_n 0 dJ3_checkIndex_8e157_16 rfl rfl ?_
  exact z_iret dJ3_checkIndex_8e157_17 rfl rfl
theorem zs_chk (hd : 3 ≤ d) {x n : Int32} (h0 : ¬ x < 0) (h1 : x < n) : Zm Γ m_J0_checkIndex_df160 d [.int x, .int n] h (.inl none, h) := by
  refine z_meth rfl (plainFor_of_name (by decide +kernel)) (by simp [lg_sl, Value.category, zml, m_J0_checkIndex_df160]) ?_
  refine z_iload_n 0 dJ0_checkIndex_df160_0 rfl rfl ?_
  refine z_iload_n 1 dJ0_checkIndex_df160_1 rfl rfl ?_
  refine z_sf dJ0_checkIndex_df160_2 wj_J0_1053 fun v hv => ?_
  refine z_callS1 (d' := d - 1) (As := [.int x, .int n, v]) (rest := []) dJ0_checkIndex_df160_5 lk_J0_1059 (zs_pre (by omega) hv h0 h1) (by omega) rfl rfl (by decide) ?_
  refine z_pop dJ0_checkIndex_df160_8 rfl ?_
  exact z_vret dJ0_checkIndex_df160_9 rfl rfl
theorem zs_lat (hd : 4 ≤ d) {i : Nat} {j : Int32} (hi : i < 20) (hj : zix j (zlen.getD i 0)) (hlt : j < Int32.ofNat (zlen.getD i 0)) (hv : (((zbyt.getD i []).getD j.toNatClampNeg 0 &&& 255).toUInt32 % 65536).toInt32 = (zbyt.getD i []).getD j.toNatClampNeg 0) (hn : narrow .char (.int ((zbyt.getD i []).getD j.toNatClampNeg 0)) = .int ((zbyt.getD i []).getD j.toNatClampNeg 0)) : Zm Γ m_J1_charAt_3b067 d [.ref (zVa Γ i), .int j] h (.inl (some (.int ((zbyt.getD i []).getD j.toNatClampNeg 0))), h) := by
  refine z_meth rfl (plainFor_of_name (by decide +kernel)) (by simp [lg_sl, Value.category, zml, m_J1_charAt_3b067]) ?_
  refine z_iload_n 1 dJ1_charAt_3b067_0 rfl rfl ?_
  refine z_aload_n 0 dJ1_charAt_3b067_1 rfl rfl ?_
  refine z_strL hi dJ1_charAt_3b067_2 ?_
  refine z_callS1 (d' := d - 1) (As := [.int j, .int (Int32.ofNat (zlen.getD i 0))]) (rest := []) dJ1_charAt_3b067_3 lk_J1_9 (zs_chk (by omega) hj.1 hlt) (by omega) rfl rfl (by decide) ?_
  refine z_aload_n 0 dJ1_charAt_3b067_6 rfl rfl ?_
  refine z_iload_n 1 dJ1_charAt_3b067_7 rfl rfl ?_
  refine z_strB hi hj dJ1_charAt_3b067_8 ?_
  refine z_sipush 255 dJ1_charAt_3b067_9 (by decide) ?_
  refine z_iand dJ1_charAt_3b067_12 ?_
  refine z_i2c dJ1_charAt_3b067_13 ?_
  rw [hv]
  exact z_nret dJ1_charAt_3b067_14 rfl hn rfl
theorem zs_isL (hd : 2 ≤ d) {i : Nat} (hi : i < 20) : Zm Γ m_J0_isLatin1_aae02 d [.ref (zKa Γ i)] h (.inl (some (.int 1)), h) := by
  refine z_meth rfl (plainFor_of_name (by decide +kernel)) (by simp [lg_sl, Value.category, zml, m_J0_isLatin1_aae02]) ?_
  refine z_cs dJ0_isLatin1_aae02_0 wj_J0_38 ?_
  refine z_ifeq' (by decide) dJ0_isLatin1_aae02_3 17 (by decide) ?_
  refine z_aload_n 0 dJ0_isLatin1_aae02_6 rfl rfl ?_
  refine z_strC hi dJ0_isLatin1_aae02_7 wj_J0_15 ?_
  refine z_ifne' dJ0_isLatin1_aae02_10 17 (by decide) ?_
  refine z_iconst 1 dJ0_isLatin1_aae02_13 (by decide) ?_
  refine z_goto 18 dJ0_isLatin1_aae02_14 (by decide) ?_
  exact z_zret dJ0_isLatin1_aae02_18 rfl (Or.inr rfl) rfl
theorem zs_cod (hd : 2 ≤ d) {i : Nat} (hi : i < 20) : Zm Γ m_J0_coder_7d493 d [.ref (zKa Γ i)] h (.inl (some (.int 0)), h) := by
  refine z_meth rfl (plainFor_of_name (by decide +kernel)) (by simp [lg_sl, Value.category, zml, m_J0_coder_7d493]) ?_
  refine z_cs dJ0_coder_7d493_0 wj_J0_38 ?_
  refine z_ifeq' (by decide) dJ0_coder_7d493_3 13 (by decide) ?_
  refine z_aload_n 0 dJ0_coder_7d493_6 rfl rfl ?_
  refine z_strC hi dJ0_coder_7d493_7 wj_J0_15 ?_
  refine z_goto 14 dJ0_coder_7d493_10 (by decide) ?_
  exact z_nret dJ0_coder_7d493_14 rfl rfl rfl
theorem zs_len (hd : 4 ≤ d) {i : Nat} (hi : i < 20) : Zm Γ m_J0_length_8abf5 d [.ref (zKa Γ i)] h (.inl (some (.int (Int32.ofNat (zlen.getD i 0)))), h) := by
  have hv : Int32.ofNat (zlen.getD i 0) >>> ((0 : Int32) &&& 31) = Int32.ofNat (zlen.getD i 0) := by
    have hall : ∀ i, i < 20 → Int32.ofNat (zlen.getD i 0) >>> ((0 : Int32) &&& 31) = Int32.ofNat (zlen.getD i 0) := by decide +kernel
    exact hall i hi
  refine z_meth rfl (plainFor_of_name (by decide +kernel)) (by simp [lg_sl, Value.category, zml, m_J0_length_8abf5]) ?_
  refine z_aload_n 0 dJ0_length_8abf5_0 rfl rfl ?_
  refine z_strV hi dJ0_length_8abf5_1 wj_J0_9 ?_
  refine z_strL hi dJ0_length_8abf5_4 ?_
  refine z_aload_n 0 dJ0_length_8abf5_5 rfl rfl ?_
  refine z_callStr hi (d' := d - 1) (As := []) (rest := [.int (Int32.ofNat (zlen.getD i 0))]) rfl dJ0_length_8abf5_6 lk_J0_335 (zs_cod (by omega) hi) (by omega) rfl rfl (Nat.le_of_ble_eq_true rfl) ?_
  refine z_ishr dJ0_length_8abf5_9 ?_
  rw [hv]
  exact z_iret dJ0_length_8abf5_10 rfl rfl
theorem zs_ch (hd : 6 ≤ d) {i : Nat} {j : Int32} (hi : i < 20) (hj : zix j (zlen.getD i 0)) : Zm Γ m_J0_charAt_5068e d [.ref (zKa Γ i), .int j] h (.inl (some (.int ((zbyt.getD i []).getD j.toNatClampNeg 0))), h) := by
  have hall : ∀ i, i < 20 → ∀ k, k < zlen.getD i 0 → (((zbyt.getD i []).getD k 0 &&& 255).toUInt32 % 65536).toInt32 = (zbyt.getD i []).getD k 0 ∧ vp_nar .char ((zbyt.getD i []).getD k 0) = (zbyt.getD i []).getD k 0 := by decide +kernel
  obtain ⟨hv, hn⟩ := hall i hi _ hj.2
  have hn' : narrow .char (.int ((zbyt.getD i []).getD j.toNatClampNeg 0)) = .int ((zbyt.getD i []).getD j.toNatClampNeg 0) := congrArg Value.int hn
  have hL : ∀ i, i < 20 → zlen.getD i 0 < 10 := by decide +kernel
  have hlt : j < Int32.ofNat (zlen.getD i 0) := by
    have h9 := hL i hi
    have hj0 : (0 : Int) ≤ j.toInt := by have := Int32.not_lt.mp hj.1; simpa using Int32.le_iff_toInt_le.mp this
    have hj1 : j.toInt.toNat < zlen.getD i 0 := hj.2
    have e1 : (Int32.ofNat (zlen.getD i 0)).toInt = (zlen.getD i 0 : Int) := nI_toInt (by omega)
    rw [Int32.lt_iff_toInt_lt, e1]
    omega
  refine z_meth rfl (plainFor_of_name (by decide +kernel)) (by simp [lg_sl, Value.category, zml, m_J0_charAt_5068e]) ?_
  refine z_aload_n 0 dJ0_charAt_5068e_0 rfl rfl ?_
  refine z_callStr hi (d' := d - 1) (As := []) (rest := []) rfl dJ0_charAt_5068e_1 lk_J0_492 (zs_isL (by omega) hi) (by omega) rfl rfl (by decide) ?_
  refine z_ifeq' (by decide) dJ0_charAt_5068e_4 16 (by decide) ?_
  refine z_aload_n 0 dJ0_charAt_5068e_7 rfl rfl ?_
  refine z_strV hi dJ0_charAt_5068e_8 wj_J0_9 ?_
  refine z_iload_n 1 dJ0_charAt_5068e_11 rfl rfl ?_
  refine z_callS1 (d' := d - 1) (As := [.ref (zVa Γ i), .int j]) (rest := []) dJ0_charAt_5068e_12 lk_J0_495 (zs_lat (by omega) hi hj hlt hv hn') (by omega) rfl rfl (by decide) ?_
  exact z_nret dJ0_charAt_5068e_15 rfl hn' rfl
def lnS (i : Nat) : Option Int32 := if i < 9 then some (Int32.ofNat (zlen.getD i 0)) else none
def chS (i : Nat) (j : Int32) : Option Int32 := if i < 9 ∧ ¬ j < 0 ∧ j.toNatClampNeg < zlen.getD i 0 then some ((zbyt.getD i []).getD j.toNatClampNeg 0) else none
variable {X : zX} {h0 : zH} {o : zR × zH} {pc : Nat} {lv : List (Nat × Value)} {st : List Value} {β : Type} {w : β}
theorem z_lnS {K : Int32 → Option β} {index i : Nat} (hd : decode (zcc X) pc = .ok (.invokevirtual index, 3)) (hL : zLV X.1.cls index m_J0_length_8abf5 0) (hdd : 8 ≤ d) (hst : (st.map fun v => v.category).sum ≤ 8) (hf : (lnS i).bind K = some w) (kk : ∀ x : Int32, K x = some w → Z Γ X d h0 o (pc + 3) lv (.int x :: st) h) : Z Γ X d h0 o pc lv (.ref (zKa Γ i) :: st) h := by
  obtain ⟨x, e1, e2⟩ := Option.bind_eq_some_iff.mp hf
  unfold lnS at e1
  split at e1
  · next hi => cases e1; exact z_callStr (Nat.lt_of_lt_of_le hi (by decide)) (d' := d - 1) (As := []) rfl hd hL (zs_len (by omega) (Nat.lt_of_lt_of_le hi (by decide))) (by omega) rfl rfl hst (kk _ e2)
  · cases e1
theorem z_chS {K : Int32 → Option β} {index i : Nat} {j : Int32} (hd : decode (zcc X) pc = .ok (.invokevirtual index, 3)) (hL : zLV X.1.cls index m_J0_charAt_5068e 1) (hdd : 8 ≤ d) (hst : (st.map fun v => v.category).sum ≤ 8) (hf : (chS i j).bind K = some w) (kk : ∀ x : Int32, K x = some w → Z Γ X d h0 o (pc + 3) lv (.int x :: st) h) : Z Γ X d h0 o pc lv (.int j :: .ref (zKa Γ i) :: st) h := by
  obtain ⟨x, e1, e2⟩ := Option.bind_eq_some_iff.mp hf
  unfold chS at e1
  split at e1
  · next hi => cases e1; exact z_callStr (Nat.lt_of_lt_of_le hi.1 (by decide)) (d' := d - 1) (As := [.int j]) rfl hd hL (zs_ch (by omega) (Nat.lt_of_lt_of_le hi.1 (by decide)) hi.2) (by omega) rfl rfl hst (kk _ e2)
  · cases e1
end ZSTRM

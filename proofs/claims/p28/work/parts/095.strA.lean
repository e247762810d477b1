theorem cix_at {Γ : zG} {h : zH} {H : Heap} {b i : Nat} (hc : cix h b = some i) (hR : zRp Γ h H) : b = zKa Γ i := by
  obtain ⟨h1, x, h2, h3⟩ := cix_of hc
  obtain ⟨j, g1, g2, g3⟩ := (hR.2.2 b _ h3).2 (fun hn => hn _ rfl)
  have g4 : x = Int32.ofNat j := by
    have := Sum.inr.inj g3
    have h5 := congrArg Prod.snd this
    exact Value.int.inj (List.cons.inj h5).1
  rw [g4, ofNat_clamp j g1] at h2
  rw [← h2]
  exact g2
section ZSTRA
variable {Γ : zG} {X : zX} {d : Nat} {h0 : zH} {o : zR × zH} {pc : Nat} {lv : List (Nat × Value)} {st : List Value} {h : zH} {β : Type} {w : β}
/-- a constant's address -/
theorem Z.str {b i : Nat} (S : Nat → List Value) (hc : cix h b = some i) (kk : Z Γ X d h0 o pc lv (S (zKa Γ i)) h) : Z Γ X d h0 o pc lv (S b) h :=
  ⟨kk.1, fun hle p l e R s m args below meth c H locs ls C hRp hSv hl => by
    rw [cix_at hc hRp]
    exact kk.2 hle p l e R s m args below meth c H locs ls C hRp hSv hl⟩
theorem z_ifeq1 {off : Int} (hd : decode (zcc X) pc = .ok (.ifCond .eq off, 3)) (tgt : Nat) (ht : (pc : Int) + off = (tgt : Int)) (kk : Z Γ X d h0 o tgt lv st h) : Z Γ X d h0 o pc lv (.int 0 :: st) h := Z.go (fun C hl w => lv_if_eq C.1 C.2.1 hd ht (fun _ => w) (fun hn => absurd rfl hn)) kk
/-- a made String's length, letter, bytes -/
theorem za_cod (hd : 2 ≤ d) {b : Nat} (hb : gI h b 13 1 = some 0) : Zm Γ m_J0_coder_7d493 d [.ref b] h (.inl (some (.int 0)), h) := by
  refine z_meth rfl (plainFor_of_name (by decide +kernel)) (by simp [lg_sl, Value.category, zml, m_J0_coder_7d493]) ?_
  refine z_cs dJ0_coder_7d493_0 wj_J0_38 ?_
  refine z_ifeq' (by decide) dJ0_coder_7d493_3 13 (by decide) ?_
  refine z_aload_n 0 dJ0_coder_7d493_6 rfl rfl ?_
  refine z_getV 13 1 dJ0_coder_7d493_7 zc13 (by decide) wj_J0_15 (gI_of hb) ?_
  refine z_goto 14 dJ0_coder_7d493_10 (by decide) ?_
  exact z_nret dJ0_coder_7d493_14 rfl rfl rfl
theorem za_isL (hd : 2 ≤ d) {b : Nat} (hb : gI h b 13 1 = some 0) : Zm Γ m_J0_isLatin1_aae02 d [.ref b] h (.inl (some (.int 1)), h) := by
  refine z_meth rfl (plainFor_of_name (by decide +kernel)) (by simp [lg_sl, Value.category, zml, m_J0_isLatin1_aae02]) ?_
  refine z_cs dJ0_isLatin1_aae02_0 wj_J0_38 ?_
  refine z_ifeq' (by decide) dJ0_isLatin1_aae02_3 17 (by decide) ?_
  refine z_aload_n 0 dJ0_isLatin1_aae02_6 rfl rfl ?_
  refine z_getV 13 1 dJ0_isLatin1_aae02_7 zc13 (by decide) wj_J0_15 (gI_of hb) ?_
  refine z_ifne' dJ0_isLatin1_aae02_10 17 (by decide) ?_
  refine z_iconst 1 dJ0_isLatin1_aae02_13 (by decide) ?_
  refine z_goto 18 dJ0_isLatin1_aae02_14 (by decide) ?_
  exact z_zret dJ0_isLatin1_aae02_18 rfl (Or.inr rfl) rfl
theorem aLenB {v n : Nat} {f : Nat → Int32} (hv : hM h v = some (.inl (2, n, .inl f))) : aLen h v = some (Int32.ofNat n) := by
  unfold aLen
  rw [hv]
  rfl
theorem z_alenV {a : Nat} {x : Int32} (hd : decode (zcc X) pc = .ok (.arraylength, 1)) (hx : aLen h a = some x) (kk : Z Γ X d h0 o (pc + 1) lv (.int x :: st) h) : Z Γ X d h0 o pc lv (.ref a :: st) h :=
  z_alen (K := fun y => some y) (w := x) hd (by rw [hx]; rfl) (fun y hy => by cases hy; exact kk)
theorem sh0 (x : Int32) : x >>> ((0 : Int32) &&& 31) = x := sb_shr0 x
theorem za_len (hd : 4 ≤ d) {b : Nat} {q : Nat × Nat × (Nat → Int32)} (hq : dyn h b = some q) : Zm Γ m_J0_length_8abf5 d [.ref b] h (.inl (some (.int (Int32.ofNat q.2.1))), h) := by
  obtain ⟨h1, h2, h3⟩ := dyn_of hq
  obtain ⟨fs, h4⟩ := dyn_o hq
  refine z_meth rfl (plainFor_of_name (by decide +kernel)) (by simp [lg_sl, Value.category, zml, m_J0_length_8abf5]) ?_
  refine z_aload_n 0 dJ0_length_8abf5_0 rfl rfl ?_
  refine z_getV 13 0 dJ0_length_8abf5_1 zc13 (by decide) wj_J0_9 (gA_of h1) ?_
  refine z_alenV dJ0_length_8abf5_4 (aLenB h3) ?_
  refine z_aload_n 0 dJ0_length_8abf5_5 rfl rfl ?_
  refine z_callV (d' := d - 1) (As := []) (rest := [.int (Int32.ofNat q.2.1)]) dJ0_length_8abf5_6 lk_J0_335 rfl h4 (za_cod (by omega) h2) (by omega) rfl rfl (Nat.le_of_ble_eq_true rfl) (fun v hv => by
    cases hv
    refine z_ishr dJ0_length_8abf5_9 ?_
    rw [sh0]
    exact z_iret dJ0_length_8abf5_10 rfl rfl) (fun k hk => by cases hk)
theorem z_baldV {a n : Nat} {f : Nat → Int32} {i : Int32} (hd : decode (zcc X) pc = .ok (.baload, 1)) (hv : hM h a = some (.inl (2, n, .inl f))) (hi : zix i n) (kk : Z Γ X d h0 o (pc + 1) lv (.int (f i.toNatClampNeg) :: st) h) : Z Γ X d h0 o pc lv (.int i :: .ref a :: st) h :=
  z_baload (K := fun y => some y) (w := f i.toNatClampNeg) hd (by
    have e : ldZ h a i = some (f i.toNatClampNeg) := by
      unfold ldZ
      rw [hv]
      dsimp only
      rw [if_pos ⟨rfl, hi⟩]
    rw [e]; rfl) (fun y hy => by cases hy; exact kk)
theorem za_lat (hd : 4 ≤ d) {v n : Nat} {f : Nat → Int32} {j : Int32} (hv : hM h v = some (.inl (2, n, .inl f))) (hj : zix j n) (hlt : j < Int32.ofNat n) (hc : chOK (f j.toNatClampNeg)) : Zm Γ m_J1_charAt_3b067 d [.ref v, .int j] h (.inl (some (.int (f j.toNatClampNeg))), h) := by
  refine z_meth rfl (plainFor_of_name (by decide +kernel)) (by simp [lg_sl, Value.category, zml, m_J1_charAt_3b067]) ?_
  refine z_iload_n 1 dJ1_charAt_3b067_0 rfl rfl ?_
  refine z_aload_n 0 dJ1_charAt_3b067_1 rfl rfl ?_
  refine z_alenV dJ1_charAt_3b067_2 (aLenB hv) ?_
  refine z_callS1 (d' := d - 1) (As := [.int j, .int (Int32.ofNat n)]) (rest := []) dJ1_charAt_3b067_3 lk_J1_9 (zs_chk (by omega) hj.1 hlt) (by omega) rfl rfl (by decide) ?_
  refine z_aload_n 0 dJ1_charAt_3b067_6 rfl rfl ?_
  refine z_iload_n 1 dJ1_charAt_3b067_7 rfl rfl ?_
  refine z_baldV dJ1_charAt_3b067_8 hv hj ?_
  refine z_sipush 255 dJ1_charAt_3b067_9 (by decide) ?_
  refine z_iand dJ1_charAt_3b067_12 ?_
  refine z_i2c dJ1_charAt_3b067_13 ?_
  rw [hc.1]
  exact z_nret dJ1_charAt_3b067_14 rfl (congrArg Value.int hc.2) rfl
theorem za_ch (hd : 6 ≤ d) {b : Nat} {q : Nat × Nat × (Nat → Int32)} {j : Int32} (hq : dyn h b = some q) (hj : zix j q.2.1) (hlt : j < Int32.ofNat q.2.1) (hc : chOK (q.2.2 j.toNatClampNeg)) : Zm Γ m_J0_charAt_5068e d [.ref b, .int j] h (.inl (some (.int (q.2.2 j.toNatClampNeg))), h) := by
  obtain ⟨h1, h2, h3⟩ := dyn_of hq
  obtain ⟨fs, h4⟩ := dyn_o hq
  refine z_meth rfl (plainFor_of_name (by decide +kernel)) (by simp [lg_sl, Value.category, zml, m_J0_charAt_5068e]) ?_
  refine z_aload_n 0 dJ0_charAt_5068e_0 rfl rfl ?_
  refine z_callV (d' := d - 1) (As := []) (rest := []) dJ0_charAt_5068e_1 lk_J0_492 rfl h4 (za_isL (by omega) h2) (by omega) rfl rfl (by decide) (fun v hv => by
    cases hv
    refine z_ifeq' (by decide) dJ0_charAt_5068e_4 16 (by decide) ?_
    refine z_aload_n 0 dJ0_charAt_5068e_7 rfl rfl ?_
    refine z_getV 13 0 dJ0_charAt_5068e_8 zc13 (by decide) wj_J0_9 (gA_of h1) ?_
    refine z_iload_n 1 dJ0_charAt_5068e_11 rfl rfl ?_
    refine z_callS1 (d' := d - 1) (As := [.ref q.1, .int j]) (rest := []) dJ0_charAt_5068e_12 lk_J0_495 (za_lat (by omega) h3 hj hlt hc) (by omega) rfl rfl (by decide) ?_
    exact z_nret dJ0_charAt_5068e_15 rfl (congrArg Value.int hc.2) rfl) (fun k hk => by cases hk)
theorem z_icne {x y : Int32} {off : Int} (hxy : x = y) (hd : decode (zcc X) pc = .ok (.if_icmp .ne off, 3)) (tgt : Nat) (ht : (pc : Int) + off = (tgt : Int)) (kk : Z Γ X d h0 o (pc + 3) lv st h) : Z Γ X d h0 o pc lv (.int y :: .int x :: st) h := Z.go (fun C hl w => lv_icmp_ne C.1 C.2.1 hd ht (fun hn => absurd hxy hn) (fun _ => w)) kk
theorem z_copyK {index a i n1 : Nat} {g : Nat → Int32} {dp : Int32} (hi : i < 20) (hd : decode (zcc X) pc = .ok (.invokestatic index, 3)) (hlk : Cond.methodLink X.1.cls index arraycopyName ∈ GW) (hnat : Cond.native arraycopyName ∈ GW) (hsta : Cond.static arraycopyName ∈ GW) (hini : Cond.initialized "java/lang/System" ∈ GW) (hdd : 8 ≤ d) (hst : (st.map fun v => v.category).sum ≤ 8)
    (hg : hM h a = some (.inl (2, n1, .inl g))) (h2 : ¬ dp < 0) (h5 : dp.toNatClampNeg + zlen.getD i 0 ≤ n1) (kk : Z Γ X d h0 o (pc + 3) lv st (hPut h a (.inl (2, n1, .inl (va_cpy (kby i) g 0 dp.toNatClampNeg (zlen.getD i 0)))))) : Z Γ X d h0 o pc lv (.int (Int32.ofNat (zlen.getD i 0)) :: .int dp :: .ref a :: .int 0 :: .ref (zVa Γ i) :: st) h := by
  have hall : ∀ i, i < 20 → ∀ q, q < zlen.getD i 0 → fitB (kby i q) := by decide +kernel
  have hlen : ∀ i, i < 20 → (Int32.ofNat (zlen.getD i 0)).toNatClampNeg = zlen.getD i 0 ∧ ¬ Int32.ofNat (zlen.getD i 0) < 0 := by decide +kernel
  obtain ⟨hn, h3⟩ := hlen i hi
  have hz : (0 : Int32).toNatClampNeg = 0 := by decide
  have h1 : ¬ (0 : Int32) < 0 := by decide
  refine ⟨kk.1, fun hle p l e R s m args below meth c H locs ls C hRp hSv hl => ?_⟩
  have hts := C.2.2.2.2.2.2.1
  have hR1 := C.2.2.2.2.2.2.2.2.2.2.1
  have hR2 := C.2.2.2.2.2.2.2.2.2.2.2.1
  have nn : ∀ z : Int32, ¬ z < 0 → z.toInt = (z.toNatClampNeg : Int) := by
    intro z hz
    have hz0 : (0 : Int) ≤ z.toInt := by
      have := Int32.not_lt.mp hz
      simpa using Int32.le_iff_toInt_le.mp this
    show z.toInt = ((z.toInt.toNat : Nat) : Int)
    omega
  intro T hT Xs
  obtain ⟨scr, hs1, hs2, hs3, hs4, -, hs5, hs7⟩ := (C.2.2.2.2.2.2.2.2.1.2.2.2.2.1.1 i hi).2.2.2
  have hc0 : H[zVa Γ i]? = some scr := by rw [hSv.2.1 _ (Array.getElem?_eq_some_iff.mp hs1).1 hs7]; exact hs1
  obtain ⟨hs6, k0, hk0, cm0, hkk0⟩ := hs2
  have hc1 : H[a]? = some (vp_cell (Γ.2.1 2) (n1, .inl g)) := (hRp.l hg).2
  obtain ⟨-, kA, hkA, cmA, hkkA⟩ := (C.2.2.2.2.2.2.2.2.1.1.2 2 _ (ztys_at Γ.2.1 (k := 2) (by decide))).1 n1 (fun j => .int (g j))
  obtain ⟨vm', X', step⟩ := Xs.arraycopy C.1 C.2.2.2.2.1 (hts _ hlk) (hts _ hnat) (hts _ hsta) (hts _ hini) (src := zVa Γ i) (dst := a) (cs := scr) (cd := vp_cell (Γ.2.1 2) (n1, .inl g)) (srcPos := 0) (destPos := dp) (n := Int32.ofNat (zlen.getD i 0)) (by rw [hT]; exact hc0) (by rw [hT]; exact hc1)
    hs6 (fun _ h => by cases h) hs3 (fun h => by cases h) hk0 hkA hkk0 hkkA (by simp [zaty, refKind]) h1 h2 h3
    (by rw [nn 0 h1, nn _ h3, hz, hn]; omega)
    (by rw [nn dp h2, nn _ h3, hn]; show ¬ _ > ((arrV (Γ.2.1 2) n1 (fun j => .int (g j))).slots.size : Int); rw [arrV_size]; omega)
    (fun vm₁ _ q hi2 => by
      rw [hn] at hi2
      have e : scr.slots.getD ((0 : Int32).toNatClampNeg + q) .null = .int (kby i q) := by
        rw [hz, Nat.zero_add, Array.getD_eq_getD_getElem?, hs5 _ hi2]
        rfl
      refine ⟨?_, ?_⟩
      · rw [e]
        exact fitB_of (hall i hi q hi2)
      · rw [e]
        exact trivial)
    (g := F0 m pc ls (.int (Int32.ofNat (zlen.getD i 0)) :: .int dp :: .ref a :: .int 0 :: .ref (zVa Γ i) :: st)) rfl (hl.1.trans C.2.2.2.1.symm) (rest := st) rfl (by rw [C.2.1]; exact hd) (by omega) (by
      have e9 : nativeFrameWords "java/lang/System" "arraycopy" 5 ≤ 100 := by decide +kernel
      show 2 * 0 + _ + _ ≤ _
      omega)
  have e2 : copied scr (vp_cell (Γ.2.1 2) (n1, .inl g)) 0 dp (Int32.ofNat (zlen.getD i 0)) = vp_cell (Γ.2.1 2) (n1, .inl (va_cpy (kby i) g (0 : Int32).toNatClampNeg dp.toNatClampNeg (Int32.ofNat (zlen.getD i 0)).toNatClampNeg)) := va_copiedX (fun z => .int z) scr (Γ.2.1 2) (kby i) g hs5 (by rw [hz, hn]; omega)
  have e1 : copied scr (vp_cell (Γ.2.1 2) (n1, .inl g)) 0 dp (Int32.ofNat (zlen.getD i 0)) = vp_cell (Γ.2.1 2) (n1, .inl (va_cpy (kby i) g 0 dp.toNatClampNeg (zlen.getD i 0))) := by
    rw [hz, hn] at e2
    exact e2
  rw [e1] at X' step
  have hlt : a < H.size := (Array.getElem?_eq_some_iff.mp hc1).1
  have oq : ∀ q : Nat, q ≠ a → (H.setIfInBounds a (vp_cell (Γ.2.1 2) (n1, .inl (va_cpy (kby i) g 0 dp.toNatClampNeg (zlen.getD i 0)))))[q]? = H[q]? := fun q hq => by simp [Array.getElem?_setIfInBounds, Ne.symm hq]
  have hA := (hRp.l hg).1
  have hat : va_at Γ.1 vwCl (a, ztoE Γ.2.1 (.inl (2, n1, .inl (va_cpy (kby i) g 0 dp.toNatClampNeg (zlen.getD i 0))))) (H.setIfInBounds a (vp_cell (Γ.2.1 2) (n1, .inl (va_cpy (kby i) g 0 dp.toNatClampNeg (zlen.getD i 0))))) := by
    show (H.setIfInBounds a _)[a]? = some _
    simp [Array.getElem?_setIfInBounds, hlt]
  obtain ⟨t, a1, b1⟩ := kk.2 hle p l e R s m args below meth c _ _ ls C (hRp.put hg zRl_l hat zRl_l (by simp) oq) ⟨by simp; exact hSv.1, fun q g1 g2 => by
      rw [oq q (fun e => g2 (by rw [e]; exact hA))]
      exact hSv.2.1 q g1 g2, fun q hq => by
      rcases List.mem_append.mp hq with h | h
      · exact hSv.2.2 q h
      · obtain ⟨z, -, hz⟩ := List.mem_map.mp h
        rw [← hz]
        exact hA⟩ hl ((T.setVm vm').setCell a (vp_cell (Γ.2.1 2) (n1, .inl (va_cpy (kby i) g 0 dp.toNatClampNeg (zlen.getD i 0))))) (by rw [← hT]; rfl) X'
  exact ⟨t, step t a1, b1⟩
theorem zk_gb (hd : 12 ≤ d) {i dst n : Nat} {g : Nat → Int32} {idx : Int32} (hi : i < 20) (hg : hM h dst = some (.inl (2, n, .inl g))) (h1 : ¬ idx < 0) (h2 : idx.toNatClampNeg + zlen.getD i 0 ≤ n) : Zm Γ m_J0_getBytes_840e7 d [.ref (zKa Γ i), .ref dst, .int idx, .int 0] h (.inl none, hPut h dst (.inl (2, n, .inl (va_cpy (kby i) g 0 idx.toNatClampNeg (zlen.getD i 0))))) := by
  refine z_meth rfl (plainFor_of_name (by decide +kernel)) (by simp [lg_sl, Value.category, zml, m_J0_getBytes_840e7]) ?_
  refine z_aload_n 0 dJ0_getBytes_840e7_0 rfl rfl ?_
  refine z_callStr hi (d' := d - 1) (As := []) (rest := []) rfl dJ0_getBytes_840e7_1 lk_J0_335 (zs_cod (by omega) hi) (by omega) rfl rfl (by decide) ?_
  refine z_iload_n 3 dJ0_getBytes_840e7_4 rfl rfl ?_
  refine z_icne rfl dJ0_getBytes_840e7_5 28 (by decide) ?_
  refine z_aload_n 0 dJ0_getBytes_840e7_8 rfl rfl ?_
  refine z_strV hi dJ0_getBytes_840e7_9 wj_J0_9 ?_
  refine z_iconst 0 dJ0_getBytes_840e7_12 (by decide) ?_
  refine z_aload_n 1 dJ0_getBytes_840e7_13 rfl rfl ?_
  refine z_iload_n 2 dJ0_getBytes_840e7_14 rfl rfl ?_
  refine z_iload_n 3 dJ0_getBytes_840e7_15 rfl rfl ?_
  refine z_ishl dJ0_getBytes_840e7_16 ?_
  rw [sb_shl0]
  refine z_aload_n 0 dJ0_getBytes_840e7_17 rfl rfl ?_
  refine z_strV hi dJ0_getBytes_840e7_18 wj_J0_9 ?_
  refine z_strL hi dJ0_getBytes_840e7_21 ?_
  refine z_copyK hi dJ0_getBytes_840e7_22 wl_J0_212 wi_acn wi_acs wi_sys (by omega) (by decide) hg h1 h2 ?_
  refine z_goto 43 dJ0_getBytes_840e7_25 (by decide) ?_
  exact z_vret dJ0_getBytes_840e7_43 rfl rfl
theorem za_gb (hd : 12 ≤ d) {b dst : Nat} {q : Nat × Nat × (Nat → Int32)} {idx : Int32} {h1 : zH} (hq : dyn h b = some q) (hc : cpB h q.1 0 dst idx (Int32.ofNat q.2.1) = some h1) : Zm Γ m_J0_getBytes_840e7 d [.ref b, .ref dst, .int idx, .int 0] h (.inl none, h1) := by
  obtain ⟨g1, g2, g3⟩ := dyn_of hq
  obtain ⟨fs, g4⟩ := dyn_o hq
  refine z_meth rfl (plainFor_of_name (by decide +kernel)) (by simp [lg_sl, Value.category, zml, m_J0_getBytes_840e7]) ?_
  refine z_aload_n 0 dJ0_getBytes_840e7_0 rfl rfl ?_
  refine z_callV (d' := d - 1) (As := []) (rest := []) dJ0_getBytes_840e7_1 lk_J0_335 rfl g4 (za_cod (by omega) g2) (by omega) rfl rfl (by decide) (fun v hv => by
    cases hv
    refine z_iload_n 3 dJ0_getBytes_840e7_4 rfl rfl ?_
    refine z_icne rfl dJ0_getBytes_840e7_5 28 (by decide) ?_
    refine z_aload_n 0 dJ0_getBytes_840e7_8 rfl rfl ?_
    refine z_getV 13 0 dJ0_getBytes_840e7_9 zc13 (by decide) wj_J0_9 (gA_of g1) ?_
    refine z_iconst 0 dJ0_getBytes_840e7_12 (by decide) ?_
    refine z_aload_n 1 dJ0_getBytes_840e7_13 rfl rfl ?_
    refine z_iload_n 2 dJ0_getBytes_840e7_14 rfl rfl ?_
    refine z_iload_n 3 dJ0_getBytes_840e7_15 rfl rfl ?_
    refine z_ishl dJ0_getBytes_840e7_16 ?_
    rw [sb_shl0]
    refine z_aload_n 0 dJ0_getBytes_840e7_17 rfl rfl ?_
    refine z_getV 13 0 dJ0_getBytes_840e7_18 zc13 (by decide) wj_J0_9 (gA_of g1) ?_
    refine z_alenV dJ0_getBytes_840e7_21 (aLenB g3) ?_
    refine z_copyB (K := fun y => some y) (w := h1) dJ0_getBytes_840e7_22 wl_J0_212 wi_acn wi_acs wi_sys (by omega) (by decide) (by rw [hc]; rfl) (fun y hy => ?_)
    cases hy
    refine z_goto 43 dJ0_getBytes_840e7_25 (by decide) ?_
    exact z_vret dJ0_getBytes_840e7_43 rfl rfl) (fun k hk => by cases hk)
theorem zcallStrV {index n i d' : Nat} (hi : i < 20) {Y : zX} {h1 : zH} {As rest : List Value} (hY : Y.1.cls = RJ0) (hd : decode (zcc X) pc = .ok (.invokevirtual index, 3)) (hL : zLV X.1.cls index Y n) (hMt : Zm Γ Y d' (.ref (zKa Γ i) :: As) h (.inl none, h1)) (hdd : d' + 1 ≤ d) (hn : As.length = n) (hst0 : st = As.reverse ++ .ref (zKa Γ i) :: rest) (hst : (rest.map fun v => v.category).sum ≤ 8)
    (kk : Z Γ X d h0 o (pc + 3) lv rest h1) : Z Γ X d h0 o pc lv st h := by
  obtain ⟨hhh, w1, w2, w3, w4, w5, hdsc, hml21⟩ := hL
  have hle2 : zle h1 o.2 := kk.1
  refine ⟨zle.tr hMt.1 hle2, fun hle p l e R s m args below meth c H locs ls C hRp hSv hl => ?_⟩
  obtain ⟨hx, hb0, hrt, hml, hown, hname, hts, hlocks, hKK, hl9, hR1, hR2, hR3, hR4, hR0, htab, hzle⟩ := id C
  have hMl := hMt.2 l hl9
  rw [if_pos hhh] at hMl
  have hle1 : zle h h1 := hMt.1
  obtain ⟨cellB, g1, g2, g3⟩ := vk_recv (hKK.2.2.2.2.1) hi hSv
  subst hst0
  obtain ⟨g5, g6⟩ := hle1
  obtain ⟨g7, g8⟩ := hle
  obtain ⟨g9, g10⟩ := hle2
  refine z_back (r := .inl none) (h1 := h1) (av := (Value.ref (zKa Γ i) :: As).toArray) ⟨g5, g6⟩ ⟨g7, g8⟩ C hSv hl (vx_runV (As := As) (rest := rest) ⟨hx, hb0, hml, hown, hts⟩ hMl (cwV n hts (z_good hhh w1 w2 w3 w4 w5) rfl rfl rfl ⟨rfl, hdsc⟩ ⟨by show d' + 1 ≤ R.frames; omega, by show 8 + (zml Y + 11) + 40 * d' ≤ R.locals; omega⟩) ⟨z_blind, ⟨cellB, g1, g2, by rw [hY]; exact g3⟩, fun U hU hW => ⟨rfl, by rw [hU]; exact hRp, ?_⟩⟩ rfl hn hl.1 rfl (lv_room hst) hd ⟨by show hS h - hS h0 + (hS h1 - hS h) ≤ R.cells; omega, by show hN h - hN h0 + (hN h1 - hN h) ≤ R.slots; omega⟩) (fun v' hv' => by cases hv'; exact kk) (fun k hk => by cases hk)
  exact zKK.warm hW (by rw [hU]; exact hSv.1) (fun q h1 h2 => by rw [hU]; exact hSv.2.1 q h1 h2) hKK
/-! the calls -/
theorem z_lnA {K : Int32 → Option β} {index b : Nat} (hd : decode (zcc X) pc = .ok (.invokevirtual index, 3)) (hL : zLV X.1.cls index m_J0_length_8abf5 0) (hdd : 13 ≤ d) (hst : (st.map fun v => v.category).sum ≤ 8) (hf : (lnA h b).bind K = some w) (kk : ∀ x : Int32, K x = some w → Z Γ X d h0 o (pc + 3) lv (.int x :: st) h) : Z Γ X d h0 o pc lv (.ref b :: st) h := by
  obtain ⟨x, e1, e2⟩ := Option.bind_eq_some_iff.mp hf
  unfold lnA at e1
  split at e1
  · next i hi =>
    cases e1
    exact Z.str (fun b => .ref b :: st) hi (z_callStr (cix_of hi).1 (d' := d - 1) (As := []) rfl hd hL (zs_len (by omega) (cix_of hi).1) (by omega) rfl rfl hst (kk _ e2))
  · obtain ⟨q, q1, q2⟩ := Option.bind_eq_some_iff.mp e1
    obtain ⟨fs, g4⟩ := dyn_o q1
    cases q2
    exact z_callV (d' := d - 1) (As := []) hd hL rfl g4 (za_len (by omega) q1) (by omega) rfl rfl hst (fun v hv => by cases hv; exact kk _ e2) (fun k hk => by cases hk)
theorem z_cdA {K : Int32 → Option β} {index b : Nat} (hd : decode (zcc X) pc = .ok (.invokevirtual index, 3)) (hL : zLV X.1.cls index m_J0_coder_7d493 0) (hdd : 13 ≤ d) (hst : (st.map fun v => v.category).sum ≤ 8) (hf : (cdA h b).bind K = some w) (kk : ∀ x : Int32, K x = some w → Z Γ X d h0 o (pc + 3) lv (.int x :: st) h) : Z Γ X d h0 o pc lv (.ref b :: st) h := by
  obtain ⟨x, e1, e2⟩ := Option.bind_eq_some_iff.mp hf
  unfold cdA at e1
  split at e1
  · next i hi =>
    cases e1
    exact Z.str (fun b => .ref b :: st) hi (z_callStr (cix_of hi).1 (d' := d - 1) (As := []) rfl hd hL (zs_cod (by omega) (cix_of hi).1) (by omega) rfl rfl hst (kk _ e2))
  · obtain ⟨q, q1, q2⟩ := Option.bind_eq_some_iff.mp e1
    obtain ⟨fs, g4⟩ := dyn_o q1
    cases q2
    exact z_callV (d' := d - 1) (As := []) hd hL rfl g4 (za_cod (by omega) (dyn_of q1).2.1) (by omega) rfl rfl hst (fun v hv => by cases hv; exact kk _ e2) (fun k hk => by cases hk)
theorem z_chA {K : Int32 → Option β} {index b : Nat} {j : Int32} (hd : decode (zcc X) pc = .ok (.invokevirtual index, 3)) (hL : zLV X.1.cls index m_J0_charAt_5068e 1) (hdd : 13 ≤ d) (hst : (st.map fun v => v.category).sum ≤ 8) (hf : (chA h b j).bind K = some w) (kk : ∀ x : Int32, K x = some w → Z Γ X d h0 o (pc + 3) lv (.int x :: st) h) : Z Γ X d h0 o pc lv (.int j :: .ref b :: st) h := by
  obtain ⟨x, e1, e2⟩ := Option.bind_eq_some_iff.mp hf
  unfold chA at e1
  split at e1
  · next i hi =>
    split at e1
    · next hj =>
      cases e1
      exact Z.str (fun b => .int j :: .ref b :: st) hi (z_callStr (cix_of hi).1 (d' := d - 1) (As := [.int j]) rfl hd hL (zs_ch (by omega) (cix_of hi).1 hj) (by omega) rfl rfl hst (kk _ e2))
    · cases e1
  · obtain ⟨q, q1, q2⟩ := Option.bind_eq_some_iff.mp e1
    obtain ⟨fs, g4⟩ := dyn_o q1
    split at q2
    · next hj =>
      cases q2
      exact z_callV (d' := d - 1) (As := [.int j]) hd hL rfl g4 (za_ch (by omega) q1 hj.1 hj.2.1 hj.2.2) (by omega) rfl rfl hst (fun v hv => by cases hv; exact kk _ e2) (fun k hk => by cases hk)
    · cases q2
theorem z_gbS {K : zH → Option β} {index b dst : Nat} {idx cod : Int32} (hd : decode (zcc X) pc = .ok (.invokevirtual index, 3)) (hL : zLV X.1.cls index m_J0_getBytes_840e7 3) (hdd : 13 ≤ d) (hst : (st.map fun v => v.category).sum ≤ 8) (hf : (gbS h b dst idx cod).bind K = some w) (kk : ∀ h1 : zH, K h1 = some w → Z Γ X d h0 o (pc + 3) lv st h1) : Z Γ X d h0 o pc lv (.int cod :: .int idx :: .ref dst :: .ref b :: st) h := by
  obtain ⟨h1, e1, e2⟩ := Option.bind_eq_some_iff.mp hf
  unfold gbS at e1
  split at e1
  · next hcod =>
    subst hcod
    split at e1
    · next i hi =>
      split at e1
      · next k n g he =>
        split at e1
        · next hc =>
          obtain ⟨rfl, hc1, hc2⟩ := hc
          cases e1
          refine Z.str (fun b => .int 0 :: .int idx :: .ref dst :: .ref b :: st) hi ?_
          refine zcallStrV (cix_of hi).1 (d' := d - 1) (As := [.ref dst, .int idx, .int 0]) rfl hd hL (zk_gb (by omega) (cix_of hi).1 he hc1 hc2) (by omega) rfl rfl hst (kk _ e2)
        · cases e1
      · cases e1
    · obtain ⟨q, q1, q2⟩ := Option.bind_eq_some_iff.mp e1
      obtain ⟨fs, g4⟩ := dyn_o q1
      exact z_callV (d' := d - 1) (As := [.ref dst, .int idx, .int 0]) hd hL rfl g4 (za_gb (by omega) q1 q2) (by omega) rfl rfl hst (fun v hv => by cases hv; exact kk _ e2) (fun k hk => by cases hk)
  · cases e1
end ZSTRA

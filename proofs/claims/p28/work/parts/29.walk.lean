set_option maxRecDepth 4000 in
theorem zc_X3_hasRoomFor {Γ : zG} {N d : Nat} (hd : 10 ≤ d) {a : Nat} {p1 : Int32} {p2 : Int32} {h : zH} {w : Int32 × zH} (hf : f_X3_hasRoomFor N a p1 p2 h = some w) : Zm Γ m_X3_hasRoomFor d [.ref a, .int p1, .int p2] h (zoI w) := by
  unfold f_X3_hasRoomFor at hf
  refine z_meth rfl (plainFor_of_name wpl_X3) (by simp [lg_sl, Value.category, zml, m_X3_hasRoomFor]) ?_
  refine z_iload_n 1 dX3_hasRoomFor_0 rfl rfl ?_
  refine z_if_lt 25 dX3_hasRoomFor_1 (by decide) hf (fun hf => ?_) (fun hf => ?_)
  · refine z_iconst (0 : Int32) dX3_hasRoomFor_25 (by decide) ?_
    exact z_zret dX3_hasRoomFor_26 rfl (Or.inl rfl) (by cases hf; rfl)
  · refine z_iload_n 1 dX3_hasRoomFor_4 rfl rfl ?_
    refine z_sipush (256 : Int32) dX3_hasRoomFor_5 (by decide) ?_
    refine z_icmp_gt 25 dX3_hasRoomFor_8 (by decide) hf (fun hf => ?_) (fun hf => ?_)
    · refine z_iconst (0 : Int32) dX3_hasRoomFor_25 (by decide) ?_
      exact z_zret dX3_hasRoomFor_26 rfl (Or.inl rfl) (by cases hf; rfl)
    · refine z_iload_n 2 dX3_hasRoomFor_11 rfl rfl ?_
      refine z_if_lt 25 dX3_hasRoomFor_12 (by decide) hf (fun hf => ?_) (fun hf => ?_)
      · refine z_iconst (0 : Int32) dX3_hasRoomFor_25 (by decide) ?_
        exact z_zret dX3_hasRoomFor_26 rfl (Or.inl rfl) (by cases hf; rfl)
      · refine z_iload_n 2 dX3_hasRoomFor_15 rfl rfl ?_
        refine z_bipush (120 : Int32) dX3_hasRoomFor_16 (by decide) ?_
        refine z_icmp_ge 25 dX3_hasRoomFor_18 (by decide) hf (fun hf => ?_) (fun hf => ?_)
        · refine z_iconst (0 : Int32) dX3_hasRoomFor_25 (by decide) ?_
          exact z_zret dX3_hasRoomFor_26 rfl (Or.inl rfl) (by cases hf; rfl)
        · refine z_iconst (1 : Int32) dX3_hasRoomFor_21 (by decide) ?_
          refine z_goto 26 dX3_hasRoomFor_22 (by decide) ?_
          exact z_zret dX3_hasRoomFor_26 rfl (Or.inr rfl) (by cases hf; rfl)
set_option maxRecDepth 4000 in
theorem zc_X3_include {Γ : zG} {N d : Nat} (hd : 11 ≤ d) {a : Nat} {p1 : Int32} {p2 : Int32} {h : zH} {w : zH} (hf : f_X3_include N a p1 p2 h = some w) : Zm Γ m_X3_include d [.ref a, .int p1, .int p2] h (zoV w) := by
  unfold f_X3_include at hf
  refine z_meth rfl (plainFor_of_name wpl_X3) (by simp [lg_sl, Value.category, zml, m_X3_include]) ?_
  refine z_aload_n 0 dX3_include_0 rfl rfl ?_
  refine z_iload_n 1 dX3_include_1 rfl rfl ?_
  refine z_iload_n 2 dX3_include_2 rfl rfl ?_
  refine z_cV_i (d' := d - 1) (As := [.int p1, .int p2]) (rest := []) dX3_include_3 lk_X3_83 rfl hf (fun w1 e1 => zc_X3_hasRoomFor (by omega) e1) (by omega) rfl rfl (Nat.le_of_ble_eq_true rfl) fun y1 hf => ?_
  refine z_if_eq 31 dX3_include_6 (by decide) hf (fun hf => ?_) (fun hf => ?_)
  · exact z_vret dX3_include_31 rfl (by cases hf; rfl)
  · refine z_aload_n 0 dX3_include_9 rfl rfl ?_
    refine z_getA dX3_include_10 zc3 (by decide) wf_X3_19 hf fun x2 hf => ?_
    refine z_iconst (2 : Int32) dX3_include_13 (by decide) ?_
    refine z_iload_n 1 dX3_include_14 rfl rfl ?_
    refine z_imul dX3_include_15 ?_
    refine z_iload_n 2 dX3_include_16 rfl rfl ?_
    refine z_bipush (64 : Int32) dX3_include_17 (by decide) ?_
    refine z_idiv dX3_include_19 hf fun x3 hf => ?_
    refine z_iadd dX3_include_20 ?_
    refine z_dup2 dX3_include_21 rfl rfl ?_
    refine z_laload dX3_include_22 hf fun x4 hf => ?_
    refine z_lconst (1 : Int64) dX3_include_23 (by decide) ?_
    refine z_iload_n 2 dX3_include_24 rfl rfl ?_
    refine z_bipush (64 : Int32) dX3_include_25 (by decide) ?_
    refine z_irem dX3_include_27 hf fun x5 hf => ?_
    refine z_lshl dX3_include_28 ?_
    refine z_lor dX3_include_29 ?_
    refine z_lastore dX3_include_30 hf fun h6 hf => ?_
    exact z_vret dX3_include_31 rfl (by cases hf; rfl)
set_option maxRecDepth 4000 in
theorem zc_J13_bitCount_95d88 {Γ : zG} {N d : Nat} (hd : 10 ≤ d) {p1 : Int64} {h : zH} {w : Int32 × zH} (hf : f_J13_bitCount_95d88 N p1 h = some w) : Zm Γ m_J13_bitCount_95d88 d [.long p1] h (zoI w) := by
  unfold f_J13_bitCount_95d88 at hf
  refine z_meth rfl (plainFor_of_name (by decide +kernel)) (by simp [lg_sl, Value.category, zml, m_J13_bitCount_95d88]) ?_
  refine z_lload_n 0 dJ13_bitCount_95d88_0 rfl rfl ?_
  refine z_lload_n 0 dJ13_bitCount_95d88_1 rfl rfl ?_
  refine z_iconst (1 : Int32) dJ13_bitCount_95d88_2 (by decide) ?_
  refine z_lushr dJ13_bitCount_95d88_3 ?_
  refine z_ldc2 (6148914691236517205 : Int64) dJ13_bitCount_95d88_4 wk_J13_314 ?_
  refine z_land dJ13_bitCount_95d88_7 ?_
  refine z_lsub dJ13_bitCount_95d88_8 ?_
  refine z_lstore_n [(0, .long (p1 - ((p1.toUInt64 >>> ((1 : Int32).toInt64.toUInt64 &&& Int64.toUInt64 63)).toInt64 &&& (6148914691236517205 : Int64))))] dJ13_bitCount_95d88_9 rfl (by decide) rfl ?_
  refine z_lload_n 0 dJ13_bitCount_95d88_10 rfl rfl ?_
  refine z_ldc2 (3689348814741910323 : Int64) dJ13_bitCount_95d88_11 wk_J13_316 ?_
  refine z_land dJ13_bitCount_95d88_14 ?_
  refine z_lload_n 0 dJ13_bitCount_95d88_15 rfl rfl ?_
  refine z_iconst (2 : Int32) dJ13_bitCount_95d88_16 (by decide) ?_
  refine z_lushr dJ13_bitCount_95d88_17 ?_
  refine z_ldc2 (3689348814741910323 : Int64) dJ13_bitCount_95d88_18 wk_J13_316 ?_
  refine z_land dJ13_bitCount_95d88_21 ?_
  refine z_ladd dJ13_bitCount_95d88_22 ?_
  refine z_lstore_n [(0, .long (((p1 - ((p1.toUInt64 >>> ((1 : Int32).toInt64.toUInt64 &&& Int64.toUInt64 63)).toInt64 &&& (6148914691236517205 : Int64))) &&& (3689348814741910323 : Int64)) + (((p1 - ((p1.toUInt64 >>> ((1 : Int32).toInt64.toUInt64 &&& Int64.toUInt64 63)).toInt64 &&& (6148914691236517205 : Int64))).toUInt64 >>> ((2 : Int32).toInt64.toUInt64 &&& Int64.toUInt64 63)).toInt64 &&& (3689348814741910323 : Int64))))] dJ13_bitCount_95d88_23 rfl (by decide) rfl ?_
  refine z_lload_n 0 dJ13_bitCount_95d88_24 rfl rfl ?_
  refine z_lload_n 0 dJ13_bitCount_95d88_25 rfl rfl ?_
  refine z_iconst (4 : Int32) dJ13_bitCount_95d88_26 (by decide) ?_
  refine z_lushr dJ13_bitCount_95d88_27 ?_
  refine z_ladd dJ13_bitCount_95d88_28 ?_
  refine z_ldc2 (1085102592571150095 : Int64) dJ13_bitCount_95d88_29 wk_J13_318 ?_
  refine z_land dJ13_bitCount_95d88_32 ?_
  refine z_lstore_n [(0, .long (((((p1 - ((p1.toUInt64 >>> ((1 : Int32).toInt64.toUInt64 &&& Int64.toUInt64 63)).toInt64 &&& (6148914691236517205 : Int64))) &&& (3689348814741910323 : Int64)) + (((p1 - ((p1.toUInt64 >>> ((1 : Int32).toInt64.toUInt64 &&& Int64.toUInt64 63)).toInt64 &&& (6148914691236517205 : Int64))).toUInt64 >>> ((2 : Int32).toInt64.toUInt64 &&& Int64.toUInt64 63)).toInt64 &&& (3689348814741910323 : Int64))) + ((((p1 - ((p1.toUInt64 >>> ((1 : Int32).toInt64.toUInt64 &&& Int64.toUInt64 63)).toInt64 &&& (6148914691236517205 : Int64))) &&& (3689348814741910323 : Int64)) + (((p1 - ((p1.toUInt64 >>> ((1 : Int32).toInt64.toUInt64 &&& Int64.toUInt64 63)).toInt64 &&& (6148914691236517205 : Int64))).toUInt64 >>> ((2 : Int32).toInt64.toUInt64 &&& Int64.toUInt64 63)).toInt64 &&& (3689348814741910323 : Int64))).toUInt64 >>> ((4 : Int32).toInt64.toUInt64 &&& Int64.toUInt64 63)).toInt64) &&& (1085102592571150095 : Int64)))] dJ13_bitCount_95d88_33 rfl (by decide) rfl ?_
  refine z_lload_n 0 dJ13_bitCount_95d88_34 rfl rfl ?_
  refine z_lload_n 0 dJ13_bitCount_95d88_35 rfl rfl ?_
  refine z_bipush (8 : Int32) dJ13_bitCount_95d88_36 (by decide) ?_
  refine z_lushr dJ13_bitCount_95d88_38 ?_
  refine z_ladd dJ13_bitCount_95d88_39 ?_
  refine z_lstore_n [(0, .long ((((((p1 - ((p1.toUInt64 >>> ((1 : Int32).toInt64.toUInt64 &&& Int64.toUInt64 63)).toInt64 &&& (6148914691236517205 : Int64))) &&& (3689348814741910323 : Int64)) + (((p1 - ((p1.toUInt64 >>> ((1 : Int32).toInt64.toUInt64 &&& Int64.toUInt64 63)).toInt64 &&& (6148914691236517205 : Int64))).toUInt64 >>> ((2 : Int32).toInt64.toUInt64 &&& Int64.toUInt64 63)).toInt64 &&& (3689348814741910323 : Int64))) + ((((p1 - ((p1.toUInt64 >>> ((1 : Int32).toInt64.toUInt64 &&& Int64.toUInt64 63)).toInt64 &&& (6148914691236517205 : Int64))) &&& (3689348814741910323 : Int64)) + (((p1 - ((p1.toUInt64 >>> ((1 : Int32).toInt64.toUInt64 &&& Int64.toUInt64 63)).toInt64 &&& (6148914691236517205 : Int64))).toUInt64 >>> ((2 : Int32).toInt64.toUInt64 &&& Int64.toUInt64 63)).toInt64 &&& (3689348814741910323 : Int64))).toUInt64 >>> ((4 : Int32).toInt64.toUInt64 &&& Int64.toUInt64 63)).toInt64) &&& (1085102592571150095 : Int64)) + ((((((p1 - ((p1.toUInt64 >>> ((1 : Int32).toInt64.toUInt64 &&& Int64.toUInt64 63)).toInt64 &&& (6148914691236517205 : Int64))) &&& (3689348814741910323 : Int64)) + (((p1 - ((p1.toUInt64 >>> ((1 : Int32).toInt64.toUInt64 &&& Int64.toUInt64 63)).toInt64 &&& (6148914691236517205 : Int64))).toUInt64 >>> ((2 : Int32).toInt64.toUInt64 &&& Int64.toUInt64 63)).toInt64 &&& (3689348814741910323 : Int64))) + ((((p1 - ((p1.toUInt64 >>> ((1 : Int32).toInt64.toUInt64 &&& Int64.toUInt64 63)).toInt64 &&& (6148914691236517205 : Int64))) &&& (3689348814741910323 : Int64)) + (((p1 - ((p1.toUInt64 >>> ((1 : Int32).toInt64.toUInt64 &&& Int64.toUInt64 63)).toInt64 &&& (6148914691236517205 : Int64))).toUInt64 >>> ((2 : Int32).toInt64.toUInt64 &&& Int64.toUInt64 63)).toInt64 &&& (3689348814741910323 : Int64))).toUInt64 >>> ((4 : Int32).toInt64.toUInt64 &&& Int64.toUInt64 63)).toInt64) &&& (1085102592571150095 : Int64)).toUInt64 >>> ((8 : Int32).toInt64.toUInt64 &&& Int64.toUInt64 63)).toInt64))] dJ13_bitCount_95d88_40 rfl (by decide) rfl ?_
  refine z_lload_n 0 dJ13_bitCount_95d88_41 rfl rfl ?_
  refine z_lload_n 0 dJ13_bitCount_95d88_42 rfl rfl ?_
  refine z_bipush (16 : Int32) dJ13_bitCount_95d88_43 (by decide) ?_
  refine z_lushr dJ13_bitCount_95d88_45 ?_
  refine z_ladd dJ13_bitCount_95d88_46 ?_
  refine z_lstore_n [(0, .long (((((((p1 - ((p1.toUInt64 >>> ((1 : Int32).toInt64.toUInt64 &&& Int64.toUInt64 63)).toInt64 &&& (6148914691236517205 : Int64))) &&& (3689348814741910323 : Int64)) + (((p1 - ((p1.toUInt64 >>> ((1 : Int32).toInt64.toUInt64 &&& Int64.toUInt64 63)).toInt64 &&& (6148914691236517205 : Int64))).toUInt64 >>> ((2 : Int32).toInt64.toUInt64 &&& Int64.toUInt64 63)).toInt64 &&& (3689348814741910323 : Int64))) + ((((p1 - ((p1.toUInt64 >>> ((1 : Int32).toInt64.toUInt64 &&& Int64.toUInt64 63)).toInt64 &&& (6148914691236517205 : Int64))) &&& (3689348814741910323 : Int64)) + (((p1 - ((p1.toUInt64 >>> ((1 : Int32).toInt64.toUInt64 &&& Int64.toUInt64 63)).toInt64 &&& (6148914691236517205 : Int64))).toUInt64 >>> ((2 : Int32).toInt64.toUInt64 &&& Int64.toUInt64 63)).toInt64 &&& (3689348814741910323 : Int64))).toUInt64 >>> ((4 : Int32).toInt64.toUInt64 &&& Int64.toUInt64 63)).toInt64) &&& (1085102592571150095 : Int64)) + ((((((p1 - ((p1.toUInt64 >>> ((1 : Int32).toInt64.toUInt64 &&& Int64.toUInt64 63)).toInt64 &&& (6148914691236517205 : Int64))) &&& (3689348814741910323 : Int64)) + (((p1 - ((p1.toUInt64 >>> ((1 : Int32).toInt64.toUInt64 &&& Int64.toUInt64 63)).toInt64 &&& (6148914691236517205 : Int64))).toUInt64 >>> ((2 : Int32).toInt64.toUInt64 &&& Int64.toUInt64 63)).toInt64 &&& (3689348814741910323 : Int64))) + ((((p1 - ((p1.toUInt64 >>> ((1 : Int32).toInt64.toUInt64 &&& Int64.toUInt64 63)).toInt64 &&& (6148914691236517205 : Int64))) &&& (3689348814741910323 : Int64)) + (((p1 - ((p1.toUInt64 >>> ((1 : Int32).toInt64.toUInt64 &&& Int64.toUInt64 63)).toInt64 &&& (6148914691236517205 : Int64))).toUInt64 >>> ((2 : Int32).toInt64.toUInt64 &&& Int64.toUInt64 63)).toInt64 &&& (3689348814741910323 : Int64))).toUInt64 >>> ((4 : Int32).toInt64.toUInt64 &&& Int64.toUInt64 63)).toInt64) &&& (1085102592571150095 : Int64)).toUInt64 >>> ((8 : Int32).toInt64.toUInt64 &&& Int64.toUInt64 63)).toInt64) + (((((((p1 - ((p1.toUInt64 >>> ((1 : Int32).toInt64.toUInt64 &&& Int64.toUInt64 63)).toInt64 &&& (6148914691236517205 : Int64))) &&& (3689348814741910323 : Int64)) + (((p1 - ((p1.toUInt64 >>> ((1 : Int32).toInt64.toUInt64 &&& Int64.toUInt64 63)).toInt64 &&& (6148914691236517205 : Int64))).toUInt64 >>> ((2 : Int32).toInt64.toUInt64 &&& Int64.toUInt64 63)).toInt64 &&& (3689348814741910323 : Int64))) + ((((p1 - ((p1.toUInt64 >>> ((1 : Int32).toInt64.toUInt64 &&& Int64.toUInt64 63)).toInt64 &&& (6148914691236517205 : Int64))) &&& (3689348814741910323 : Int64)) + (((p1 - ((p1.toUInt64 >>> ((1 : Int32).toInt64.toUInt64 &&& Int64.toUInt64 63)).toInt64 &&& (6148914691236517205 : Int64))).toUInt64 >>> ((2 : Int32).toInt64.toUInt64 &&& Int64.toUInt64 63)).toInt64 &&& (3689348814741910323 : Int64))).toUInt64 >>> ((4 : Int32).toInt64.toUInt64 &&& Int64.toUInt64 63)).toInt64) &&& (1085102592571150095 : Int64)) + ((((((p1 - ((p1.toUInt64 >>> ((1 : Int32).toInt64.toUInt64 &&& Int64.toUInt64 63)).toInt64 &&& (6148914691236517205 : Int64))) &&& (3689348814741910323 : Int64)) + (((p1 - ((p1.toUInt64 >>> ((1 : Int32).toInt64.toUInt64 &&& Int64.toUInt64 63)).toInt64 &&& (6148914691236517205 : Int64))).toUInt64 >>> ((2 : Int32).toInt64.toUInt64 &&& Int64.toUInt64 63)).toInt64 &&& (3689348814741910323 : Int64))) + ((((p1 - ((p1.toUInt64 >>> ((1 : Int32).toInt64.toUInt64 &&& Int64.toUInt64 63)).toInt64 &&& (6148914691236517205 : Int64))) &&& (3689348814741910323 : Int64)) + (((p1 - ((p1.toUInt64 >>> ((1 : Int32).toInt64.toUInt64 &&& Int64.toUInt64 63)).toInt64 &&& (6148914691236517205 : Int64))).toUInt64 >>> ((2 : Int32).toInt64.toUInt64 &&& Int64.toUInt64 63)).toInt64 &&& (3689348814741910323 : Int64))).toUInt64 >>> ((4 : Int32).toInt64.toUInt64 &&& Int64.toUInt64 63)).toInt64) &&& (1085102592571150095 : Int64)).toUInt64 >>> ((8 : Int32).toInt64.toUInt64 &&& Int64.toUInt64 63)).toInt64).toUInt64 >>> ((16 : Int32).toInt64.toUInt64 &&& Int64.toUInt64 63)).toInt64))] dJ13_bitCount_95d88_47 rfl (by decide) rfl ?_
  refine z_lload_n 0 dJ13_bitCount_95d88_48 rfl rfl ?_
  refine z_lload_n 0 dJ13_bitCount_95d88_49 rfl rfl ?_
  refine z_bipush (32 : Int32) dJ13_bitCount_95d88_50 (by decide) ?_
  refine z_lushr dJ13_bitCount_95d88_52 ?_
  refine z_ladd dJ13_bitCount_95d88_53 ?_
  refine z_lstore_n [(0, .long ((((((((p1 - ((p1.toUInt64 >>> ((1 : Int32).toInt64.toUInt64 &&& Int64.toUInt64 63)).toInt64 &&& (6148914691236517205 : Int64))) &&& (3689348814741910323 : Int64)) + (((p1 - ((p1.toUInt64 >>> ((1 : Int32).toInt64.toUInt64 &&& Int64.toUInt64 63)).toInt64 &&& (6148914691236517205 : Int64))).toUInt64 >>> ((2 : Int32).toInt64.toUInt64 &&& Int64.toUInt64 63)).toInt64 &&& (3689348814741910323 : Int64))) + ((((p1 - ((p1.toUInt64 >>> ((1 : Int32).toInt64.toUInt64 &&& Int64.toUInt64 63)).toInt64 &&& (6148914691236517205 : Int64))) &&& (3689348814741910323 : Int64)) + (((p1 - ((p1.toUInt64 >>> ((1 : Int32).toInt64.toUInt64 &&& Int64.toUInt64 63)).toInt64 &&& (6148914691236517205 : Int64))).toUInt64 >>> ((2 : Int32).toInt64.toUInt64 &&& Int64.toUInt64 63)).toInt64 &&& (3689348814741910323 : Int64))).toUInt64 >>> ((4 : Int32).toInt64.toUInt64 &&& Int64.toUInt64 63)).toInt64) &&& (1085102592571150095 : Int64)) + ((((((p1 - ((p1.toUInt64 >>> ((1 : Int32).toInt64.toUInt64 &&& Int64.toUInt64 63)).toInt64 &&& (6148914691236517205 : Int64))) &&& (3689348814741910323 : Int64)) + (((p1 - ((p1.toUInt64 >>> ((1 : Int32).toInt64.toUInt64 &&& Int64.toUInt64 63)).toInt64 &&& (6148914691236517205 : Int64))).toUInt64 >>> ((2 : Int32).toInt64.toUInt64 &&& Int64.toUInt64 63)).toInt64 &&& (3689348814741910323 : Int64))) + ((((p1 - ((p1.toUInt64 >>> ((1 : Int32).toInt64.toUInt64 &&& Int64.toUInt64 63)).toInt64 &&& (6148914691236517205 : Int64))) &&& (3689348814741910323 : Int64)) + (((p1 - ((p1.toUInt64 >>> ((1 : Int32).toInt64.toUInt64 &&& Int64.toUInt64 63)).toInt64 &&& (6148914691236517205 : Int64))).toUInt64 >>> ((2 : Int32).toInt64.toUInt64 &&& Int64.toUInt64 63)).toInt64 &&& (3689348814741910323 : Int64))).toUInt64 >>> ((4 : Int32).toInt64.toUInt64 &&& Int64.toUInt64 63)).toInt64) &&& (1085102592571150095 : Int64)).toUInt64 >>> ((8 : Int32).toInt64.toUInt64 &&& Int64.toUInt64 63)).toInt64) + (((((((p1 - ((p1.toUInt64 >>> ((1 : Int32).toInt64.toUInt64 &&& Int64.toUInt64 63)).toInt64 &&& (6148914691236517205 : Int64))) &&& (3689348814741910323 : Int64)) + (((p1 - ((p1.toUInt64 >>> ((1 : Int32).toInt64.toUInt64 &&& Int64.toUInt64 63)).toInt64 &&& (6148914691236517205 : Int64))).toUInt64 >>> ((2 : Int32).toInt64.toUInt64 &&& Int64.toUInt64 63)).toInt64 &&& (3689348814741910323 : Int64))) + ((((p1 - ((p1.toUInt64 >>> ((1 : Int32).toInt64.toUInt64 &&& Int64.toUInt64 63)).toInt64 &&& (6148914691236517205 : Int64))) &&& (3689348814741910323 : Int64)) + (((p1 - ((p1.toUInt64 >>> ((1 : Int32).toInt64.toUInt64 &&& Int64.toUInt64 63)).toInt64 &&& (6148914691236517205 : Int64))).toUInt64 >>> ((2 : Int32).toInt64.toUInt64 &&& Int64.toUInt64 63)).toInt64 &&& (3689348814741910323 : Int64))).toUInt64 >>> ((4 : Int32).toInt64.toUInt64 &&& Int64.toUInt64 63)).toInt64) &&& (1085102592571150095 : Int64)) + ((((((p1 - ((p1.toUInt64 >>> ((1 : Int32).toInt64.toUInt64 &&& Int64.toUInt64 63)).toInt64 &&& (6148914691236517205 : Int64))) &&& (3689348814741910323 : Int64)) + (((p1 - ((p1.toUInt64 >>> ((1 : Int32).toInt64.toUInt64 &&& Int64.toUInt64 63)).toInt64 &&& (6148914691236517205 : Int64))).toUInt64 >>> ((2 : Int32).toInt64.toUInt64 &&& Int64.toUInt64 63)).toInt64 &&& (3689348814741910323 : Int64))) + ((((p1 - ((p1.toUInt64 >>> ((1 : Int32).toInt64.toUInt64 &&& Int64.toUInt64 63)).toInt64 &&& (6148914691236517205 : Int64))) &&& (3689348814741910323 : Int64)) + (((p1 - ((p1.toUInt64 >>> ((1 : Int32).toInt64.toUInt64 &&& Int64.toUInt64 63)).toInt64 &&& (6148914691236517205 : Int64))).toUInt64 >>> ((2 : Int32).toInt64.toUInt64 &&& Int64.toUInt64 63)).toInt64 &&& (3689348814741910323 : Int64))).toUInt64 >>> ((4 : Int32).toInt64.toUInt64 &&& Int64.toUInt64 63)).toInt64) &&& (1085102592571150095 : Int64)).toUInt64 >>> ((8 : Int32).toInt64.toUInt64 &&& Int64.toUInt64 63)).toInt64).toUInt64 >>> ((16 : Int32).toInt64.toUInt64 &&& Int64.toUInt64 63)).toInt64) + ((((((((p1 - ((p1.toUInt64 >>> ((1 : Int32).toInt64.toUInt64 &&& Int64.toUInt64 63)).toInt64 &&& (6148914691236517205 : Int64))) &&& (3689348814741910323 : Int64)) + (((p1 - ((p1.toUInt64 >>> ((1 : Int32).toInt64.toUInt64 &&& Int64.toUInt64 63)).toInt64 &&& (6148914691236517205 : Int64))).toUInt64 >>> ((2 : Int32).toInt64.toUInt64 &&& Int64.toUInt64 63)).toInt64 &&& (3689348814741910323 : Int64))) + ((((p1 - ((p1.toUInt64 >>> ((1 : Int32).toInt64.toUInt64 &&& Int64.toUInt64 63)).toInt64 &&& (6148914691236517205 : Int64))) &&& (3689348814741910323 : Int64)) + (((p1 - ((p1.toUInt64 >>> ((1 : Int32).toInt64.toUInt64 &&& Int64.toUInt64 63)).toInt64 &&& (6148914691236517205 : Int64))).toUInt64 >>> ((2 : Int32).toInt64.toUInt64 &&& Int64.toUInt64 63)).toInt64 &&& (3689348814741910323 : Int64))).toUInt64 >>> ((4 : Int32).toInt64.toUInt64 &&& Int64.toUInt64 63)).toInt64) &&& (1085102592571150095 : Int64)) + ((((((p1 - ((p1.toUInt64 >>> ((1 : Int32).toInt64.toUInt64 &&& Int64.toUInt64 63)).toInt64 &&& (6148914691236517205 : Int64))) &&& (3689348814741910323 : Int64)) + (((p1 - ((p1.toUInt64 >>> ((1 : Int32).toInt64.toUInt64 &&& Int64.toUInt64 63)).toInt64 &&& (6148914691236517205 : Int64))).toUInt64 >>> ((2 : Int32).toInt64.toUInt64 &&& Int64.toUInt64 63)).toInt64 &&& (3689348814741910323 : Int64))) + ((((p1 - ((p1.toUInt64 >>> ((1 : Int32).toInt64.toUInt64 &&& Int64.toUInt64 63)).toInt64 &&& (6148914691236517205 : Int64))) &&& (3689348814741910323 : Int64)) + (((p1 - ((p1.toUInt64 >>> ((1 : Int32).toInt64.toUInt64 &&& Int64.toUInt64 63)).toInt64 &&& (6148914691236517205 : Int64))).toUInt64 >>> ((2 : Int32).toInt64.toUInt64 &&& Int64.toUInt64 63)).toInt64 &&& (3689348814741910323 : Int64))).toUInt64 >>> ((4 : Int32).toInt64.toUInt64 &&& Int64.toUInt64 63)).toInt64) &&& (1085102592571150095 : Int64)).toUInt64 >>> ((8 : Int32).toInt64.toUInt64 &&& Int64.toUInt64 63)).toInt64) + (((((((p1 - ((p1.toUInt64 >>> ((1 : Int32).toInt64.toUInt64 &&& Int64.toUInt64 63)).toInt64 &&& (6148914691236517205 : Int64))) &&& (3689348814741910323 : Int64)) + (((p1 - ((p1.toUInt64 >>> ((1 : Int32).toInt64.toUInt64 &&& Int64.toUInt64 63)).toInt64 &&& (6148914691236517205 : Int64))).toUInt64 >>> ((2 : Int32).toInt64.toUInt64 &&& Int64.toUInt64 63)).toInt64 &&& (3689348814741910323 : Int64))) + ((((p1 - ((p1.toUInt64 >>> ((1 : Int32).toInt64.toUInt64 &&& Int64.toUInt64 63)).toInt64 &&& (6148914691236517205 : Int64))) &&& (3689348814741910323 : Int64)) + (((p1 - ((p1.toUInt64 >>> ((1 : Int32).toInt64.toUInt64 &&& Int64.toUInt64 63)).toInt64 &&& (6148914691236517205 : Int64))).toUInt64 >>> ((2 : Int32).toInt64.toUInt64 &&& Int64.toUInt64 63)).toInt64 &&& (3689348814741910323 : Int64))).toUInt64 >>> ((4 : Int32).toInt64.toUInt64 &&& Int64.toUInt64 63)).toInt64) &&& (1085102592571150095 : Int64)) + ((((((p1 - ((p1.toUInt64 >>> ((1 : Int32).toInt64.toUInt64 &&& Int64.toUInt64 63)).toInt64 &&& (6148914691236517205 : Int64))) &&& (3689348814741910323 : Int64)) + (((p1 - ((p1.toUInt64 >>> ((1 : Int32).toInt64.toUInt64 &&& Int64.toUInt64 63)).toInt64 &&& (6148914691236517205 : Int64))).toUInt64 >>> ((2 : Int32).toInt64.toUInt64 &&& Int64.toUInt64 63)).toInt64 &&& (3689348814741910323 : Int64))) + ((((p1 - ((p1.toUInt64 >>> ((1 : Int32).toInt64.toUInt64 &&& Int64.toUInt64 63)).toInt64 &&& (6148914691236517205 : Int64))) &&& (3689348814741910323 : Int64)) + (((p1 - ((p1.toUInt64 >>> ((1 : Int32).toInt64.toUInt64 &&& Int64.toUInt64 63)).toInt64 &&& (6148914691236517205 : Int64))).toUInt64 >>> ((2 : Int32).toInt64.toUInt64 &&& Int64.toUInt64 63)).toInt64 &&& (3689348814741910323 : Int64))).toUInt64 >>> ((4 : Int32).toInt64.toUInt64 &&& Int64.toUInt64 63)).toInt64) &&& (1085102592571150095 : Int64)).toUInt64 >>> ((8 : Int32).toInt64.toUInt64 &&& Int64.toUInt64 63)).toInt64).toUInt64 >>> ((16 : Int32).toInt64.toUInt64 &&& Int64.toUInt64 63)).toInt64).toUInt64 >>> ((32 : Int32).toInt64.toUInt64 &&& Int64.toUInt64 63)).toInt64))] dJ13_bitCount_95d88_54 rfl (by decide) rfl ?_
  refine z_lload_n 0 dJ13_bitCount_95d88_55 rfl rfl ?_
  refine z_l2i dJ13_bitCount_95d88_56 ?_
  refine z_bipush (127 : Int32) dJ13_bitCount_95d88_57 (by decide) ?_
  refine z_iand dJ13_bitCount_95d88_59 ?_
  exact z_iret dJ13_bitCount_95d88_60 rfl (by cases hf; rfl)
set_option maxRecDepth 4000 in
theorem zc_X3_timesCard {Γ : zG} {N d : Nat} (hd : 10 ≤ d) {a : Nat} {p1 : Int32} {p2 : Int32} {h : zH} {w : Int32 × zH} (hf : f_X3_timesCard N a p1 p2 h = some w) : Zm Γ m_X3_timesCard d [.ref a, .int p1, .int p2] h (zoI w) := by
  unfold f_X3_timesCard at hf
  refine z_meth rfl (plainFor_of_name wpl_X3) (by simp [lg_sl, Value.category, zml, m_X3_timesCard]) ?_
  refine z_iload_n 1 dX3_timesCard_0 rfl rfl ?_
  refine z_if_lt 20 dX3_timesCard_1 (by decide) hf (fun hf => ?_) (fun hf => ?_)
  · refine z_iconst (0 : Int32) dX3_timesCard_20 (by decide) ?_
    exact z_iret dX3_timesCard_21 rfl (by cases hf; rfl)
  · refine z_iload_n 1 dX3_timesCard_4 rfl rfl ?_
    refine z_bipush (120 : Int32) dX3_timesCard_5 (by decide) ?_
    refine z_icmp_ge 20 dX3_timesCard_7 (by decide) hf (fun hf => ?_) (fun hf => ?_)
    · refine z_iconst (0 : Int32) dX3_timesCard_20 (by decide) ?_
      exact z_iret dX3_timesCard_21 rfl (by cases hf; rfl)
    · refine z_iload_n 2 dX3_timesCard_10 rfl rfl ?_
      refine z_if_lt 20 dX3_timesCard_11 (by decide) hf (fun hf => ?_) (fun hf => ?_)
      · refine z_iconst (0 : Int32) dX3_timesCard_20 (by decide) ?_
        exact z_iret dX3_timesCard_21 rfl (by cases hf; rfl)
      · refine z_iload_n 2 dX3_timesCard_14 rfl rfl ?_
        refine z_bipush (8 : Int32) dX3_timesCard_15 (by decide) ?_
        refine z_icmp_lt 22 dX3_timesCard_17 (by decide) hf (fun hf => ?_) (fun hf => ?_)
        · refine z_aload_n 0 dX3_timesCard_22 rfl rfl ?_
          refine z_getA dX3_timesCard_23 zc3 (by decide) wf_X3_15 hf fun x1 hf => ?_
          refine z_iload_n 2 dX3_timesCard_26 rfl rfl ?_
          refine z_bipush (120 : Int32) dX3_timesCard_27 (by decide) ?_
          refine z_imul dX3_timesCard_29 ?_
          refine z_iload_n 1 dX3_timesCard_30 rfl rfl ?_
          refine z_iadd dX3_timesCard_31 ?_
          refine z_iaload dX3_timesCard_32 hf fun x2 hf => ?_
          exact z_iret dX3_timesCard_33 rfl (by cases hf; rfl)
        · refine z_iconst (0 : Int32) dX3_timesCard_20 (by decide) ?_
          exact z_iret dX3_timesCard_21 rfl (by cases hf; rfl)
set_option maxRecDepth 4000 in
theorem zl_X3_extend_43 {Γ : zG} {N d : Nat} {h0 : zH} (hd : 12 ≤ d) {v0 : Nat} {v1 : Int32} {v2 : Int32} {v3 : Int32} {v4 : Int32} {k1 : zH → Option (zH)} {w : zH}  (hk1 : ∀ (h : zH), k1 h = some w → Z Γ m_X3_extend d h0 (zoV w) 101 [(0, .ref v0), (1, .int v1), (2, .int v2), (3, .int v3), (4, .int v4)] [] h) : ∀ (n : Nat) (v5 : Int64) (v7 : Int32) (h : zH), f_X3_extend_l43 N v0 v1 v2 v3 v4 k1 n v5 v7 h = some w → Z Γ m_X3_extend d h0 (zoV w) 43 [(0, .ref v0), (1, .int v1), (2, .int v2), (3, .int v3), (4, .int v4), (5, .long v5), (7, .int v7)] [] h := by
  intro n
  induction n with
  | zero => intro v5 v7 h hf; cases hf
  | succ n ih =>
    intro v5 v7 h hf
    rw [f_X3_extend_l43] at hf
    refine z_iload 6 dX3_extend_43 rfl ?_
    refine z_bipush (64 : Int32) dX3_extend_45 (by decide) ?_
    refine z_icmp_ge 101 dX3_extend_47 (by decide) hf (fun hf => ?_) (fun hf => ?_)
    · exact Z.sub [0, 1, 2, 3, 4] rfl (hk1 h hf)
    · refine z_lload 5 dX3_extend_50 rfl ?_
      refine z_lconst (0 : Int64) dX3_extend_52 (by decide) ?_
      refine z_lcmp dX3_extend_53 ?_
      refine z_if_eq 101 dX3_extend_54 (by decide) hf (fun hf => ?_) (fun hf => ?_)
      · exact Z.sub [0, 1, 2, 3, 4] rfl (hk1 h hf)
      · refine z_lload 5 dX3_extend_57 rfl ?_
        refine z_lload 5 dX3_extend_59 rfl ?_
        refine z_lneg dX3_extend_61 ?_
        refine z_land dX3_extend_62 ?_
        refine z_lstore [(8, .long (v5 &&& (-v5))), (0, .ref v0), (1, .int v1), (2, .int v2), (3, .int v3), (4, .int v4), (5, .long v5), (7, .int v7)] dX3_extend_63 (by decide) rfl ?_
        refine z_lload 6 dX3_extend_65 rfl ?_
        refine z_lload 0 dX3_extend_67 rfl ?_
        refine z_lxor dX3_extend_69 ?_
        refine z_lstore [(5, .long (v5 ^^^ (v5 &&& (-v5)))), (8, .long (v5 &&& (-v5))), (0, .ref v0), (1, .int v1), (2, .int v2), (3, .int v3), (4, .int v4), (7, .int v7)] dX3_extend_70 (by decide) rfl ?_
        refine z_aload_n 2 dX3_extend_72 rfl rfl ?_
        refine z_iload_n 5 dX3_extend_73 rfl rfl ?_
        refine z_aload_n 2 dX3_extend_74 rfl rfl ?_
        refine z_iload 6 dX3_extend_75 rfl ?_
        refine z_bipush (64 : Int32) dX3_extend_77 (by decide) ?_
        refine z_imul dX3_extend_79 ?_
        refine z_lload 1 dX3_extend_80 rfl ?_
        refine z_lconst (1 : Int64) dX3_extend_82 (by decide) ?_
        refine z_lsub dX3_extend_83 ?_
        refine z_cS_i (d' := d - 1) (As := [.long ((v5 &&& (-v5)) - (1 : Int64))]) (rest := [.int (v4 * (64 : Int32)), .ref v0, .int v3, .ref v0]) dX3_extend_84 lk_X3_87 hf (fun w1 e1 => zc_J13_bitCount_95d88 (by omega) e1) (by omega) rfl rfl (Nat.le_of_ble_eq_true rfl) fun y3 hf => ?_
        refine z_iadd dX3_extend_87 ?_
        refine z_iload_n 4 dX3_extend_88 rfl rfl ?_
        refine z_cV_i (d' := d - 1) (As := [.int ((v4 * (64 : Int32)) + y3.1), .int v2]) (rest := [.int v3, .ref v0]) dX3_extend_89 lk_X3_93 rfl hf (fun w1 e1 => zc_X3_timesCard (by omega) e1) (by omega) rfl rfl (Nat.le_of_ble_eq_true rfl) fun y4 hf => ?_
        refine z_cV_v (d' := d - 1) (As := [.int v3, .int y4.1]) (rest := []) dX3_extend_92 lk_X3_36 rfl hf (fun w1 e1 => zc_X3_include (by omega) e1) (by omega) rfl rfl (Nat.le_of_ble_eq_true rfl) fun y5 hf => ?_
        refine z_iinc (v7 + (1 : Int32)) 7 [(7, .int (v7 + (1 : Int32))), (5, .long (v5 ^^^ (v5 &&& (-v5)))), (8, .long (v5 &&& (-v5))), (0, .ref v0), (1, .int v1), (2, .int v2), (3, .int v3), (4, .int v4)] dX3_extend_95 rfl rfl (by decide) rfl ?_
        refine z_goto 43 dX3_extend_98 (by decide) ?_
        exact Z.sub [3, 4, 5, 6, 7, 1, 0] rfl (ih (v5 ^^^ (v5 &&& (-v5))) (v7 + (1 : Int32)) y5 hf)
set_option maxRecDepth 4000 in
theorem zl_X3_extend_21 {Γ : zG} {N d : Nat} {h0 : zH} (hd : 12 ≤ d) {v0 : Nat} {v1 : Int32} {v2 : Int32} {v3 : Int32}  {w : zH}   : ∀ (n : Nat) (v4 : Int32) (h : zH), f_X3_extend_l21 N v0 v1 v2 v3 n v4 h = some w → Z Γ m_X3_extend d h0 (zoV w) 21 [(0, .ref v0), (1, .int v1), (2, .int v2), (3, .int v3), (4, .int v4)] [] h := by
  intro n
  induction n with
  | zero => intro v4 h hf; cases hf
  | succ n ih =>
    intro v4 h hf
    rw [f_X3_extend_l21] at hf
    refine z_iload 4 dX3_extend_21 rfl ?_
    refine z_iconst (2 : Int32) dX3_extend_23 (by decide) ?_
    refine z_icmp_ge 107 dX3_extend_24 (by decide) hf (fun hf => ?_) (fun hf => ?_)
    · exact z_vret dX3_extend_107 rfl (by cases hf; rfl)
    · refine z_aload_n 0 dX3_extend_27 rfl rfl ?_
      refine z_getA dX3_extend_28 zc3 (by decide) wf_X3_19 hf fun x1 hf => ?_
      refine z_iconst (2 : Int32) dX3_extend_31 (by decide) ?_
      refine z_iload_n 1 dX3_extend_32 rfl rfl ?_
      refine z_imul dX3_extend_33 ?_
      refine z_iload 4 dX3_extend_34 rfl ?_
      refine z_iadd dX3_extend_36 ?_
      refine z_laload dX3_extend_37 hf fun x2 hf => ?_
      refine z_lstore [(5, .long x2), (0, .ref v0), (1, .int v1), (2, .int v2), (3, .int v3), (4, .int v4)] dX3_extend_38 (by decide) rfl ?_
      refine z_iconst (0 : Int32) dX3_extend_40 (by decide) ?_
      refine z_istore [(7, .int (0 : Int32)), (5, .long x2), (0, .ref v0), (1, .int v1), (2, .int v2), (3, .int v3), (4, .int v4)] dX3_extend_41 (by decide) rfl ?_
      refine Z.sub [2, 3, 4, 5, 6, 1, 0] rfl (zl_X3_extend_43 hd (fun h6 hf => ?_) N x2 (0 : Int32) h hf)
      · refine z_iinc (v4 + (1 : Int32)) 4 [(4, .int (v4 + (1 : Int32))), (0, .ref v0), (1, .int v1), (2, .int v2), (3, .int v3)] dX3_extend_101 rfl rfl (by decide) rfl ?_
        refine z_goto 21 dX3_extend_104 (by decide) ?_
        exact Z.sub [1, 2, 3, 4, 0] rfl (ih (v4 + (1 : Int32)) h6 hf)
set_option maxRecDepth 4000 in
theorem zc_X3_extend {Γ : zG} {N d : Nat} (hd : 12 ≤ d) {a : Nat} {p1 : Int32} {p2 : Int32} {h : zH} {w : zH} (hf : f_X3_extend N a p1 p2 h = some w) : Zm Γ m_X3_extend d [.ref a, .int p1, .int p2] h (zoV w) := by
  unfold f_X3_extend at hf
  refine z_meth rfl (plainFor_of_name wpl_X3) (by simp [lg_sl, Value.category, zml, m_X3_extend]) ?_
  refine z_iload_n 1 dX3_extend_0 rfl rfl ?_
  refine z_if_lt 11 dX3_extend_1 (by decide) hf (fun hf => ?_) (fun hf => ?_)
  · exact z_vret dX3_extend_11 rfl (by cases hf; rfl)
  · refine z_iload_n 1 dX3_extend_4 rfl rfl ?_
    refine z_sipush (256 : Int32) dX3_extend_5 (by decide) ?_
    refine z_icmp_lt 12 dX3_extend_8 (by decide) hf (fun hf => ?_) (fun hf => ?_)
    · refine z_iload_n 1 dX3_extend_12 rfl rfl ?_
      refine z_iconst (1 : Int32) dX3_extend_13 (by decide) ?_
      refine z_iload_n 2 dX3_extend_14 rfl rfl ?_
      refine z_ishl dX3_extend_15 ?_
      refine z_ior dX3_extend_16 ?_
      refine z_istore_n [(3, .int (p1 ||| ((1 : Int32) <<< (p2 &&& 31)))), (0, .ref a), (1, .int p1), (2, .int p2)] dX3_extend_17 rfl (by decide) rfl ?_
      refine z_iconst (0 : Int32) dX3_extend_18 (by decide) ?_
      refine z_istore [(4, .int (0 : Int32)), (3, .int (p1 ||| ((1 : Int32) <<< (p2 &&& 31)))), (0, .ref a), (1, .int p1), (2, .int p2)] dX3_extend_19 (by decide) rfl ?_
      refine Z.sub [2, 3, 4, 1, 0] rfl (zl_X3_extend_21 hd  N (0 : Int32) h hf)
    · exact z_vret dX3_extend_11 rfl (by cases hf; rfl)
set_option maxRecDepth 4000 in
theorem zl_X3_study_25 {Γ : zG} {N d : Nat} {h0 : zH} (hd : 13 ≤ d) {v0 : Nat} {v3 : Int32} {k1 : zH → Option (zH)} {w : zH}  (hk1 : ∀ (h : zH), k1 h = some w → Z Γ m_X3_study d h0 (zoV w) 56 [(0, .ref v0), (3, .int v3)] [] h) : ∀ (n : Nat) (v4 : Int32) (h : zH), f_X3_study_l25 N v0 v3 k1 n v4 h = some w → Z Γ m_X3_study d h0 (zoV w) 25 [(0, .ref v0), (3, .int v3), (4, .int v4)] [] h := by
  intro n
  induction n with
  | zero => intro v4 h hf; cases hf
  | succ n ih =>
    intro v4 h hf
    rw [f_X3_study_l25] at hf
    refine z_iload 2 dX3_study_25 rfl ?_
    refine z_aload_n 0 dX3_study_27 rfl rfl ?_
    refine z_getI dX3_study_28 zc3 (by decide) wf_X3_44 hf fun x4 hf => ?_
    refine z_icmp_ge 56 dX3_study_31 (by decide) hf (fun hf => ?_) (fun hf => ?_)
    · exact Z.sub [0, 1] rfl (hk1 h hf)
    · refine z_iload_n 1 dX3_study_34 rfl rfl ?_
      refine z_iload 2 dX3_study_35 rfl ?_
      refine z_ishr dX3_study_37 ?_
      refine z_iconst (1 : Int32) dX3_study_38 (by decide) ?_
      refine z_iand dX3_study_39 ?_
      refine zjn_elim (P := fun (j50 : Int32 → zH → Option (zH)) => ∀ (v4 : Int32) (h : zH), j50 v4 h = some w → Z Γ m_X3_study d h0 (zoV w) 50 [(0, .ref v0), (3, .int v3), (4, .int v4)] [] h) hf (fun v4 h hf => ?_) (fun j50 hj50 hf => ?_)
      · refine z_iinc (v4 + (1 : Int32)) 2 [(4, .int (v4 + (1 : Int32))), (0, .ref v0), (3, .int v3)] dX3_study_50 rfl rfl (by decide) rfl ?_
        refine z_goto 25 dX3_study_53 (by decide) ?_
        exact Z.sub [1, 2, 0] rfl (ih (v4 + (1 : Int32)) h hf)
      · refine z_if_ne 50 dX3_study_40 (by decide) hf (fun hf => ?_) (fun hf => ?_)
        · refine z_aload_n 0 dX3_study_43 rfl rfl ?_
          refine z_iload_n 1 dX3_study_44 rfl rfl ?_
          refine z_iload 2 dX3_study_45 rfl ?_
          refine z_cV_v (d' := d - 1) (As := [.int v3, .int v4]) (rest := []) dX3_study_47 lk_X3_47 rfl hf (fun w1 e1 => zc_X3_extend (by omega) e1) (by omega) rfl rfl (Nat.le_of_ble_eq_true rfl) fun y5 hf => ?_
          exact Z.sub [0, 1, 2] rfl (hj50 v4 y5 hf)
        · exact Z.sub [0, 1, 2] rfl (hj50 v4 h hf)
set_option maxRecDepth 4000 in
theorem zl_X3_study_14 {Γ : zG} {N d : Nat} {h0 : zH} (hd : 13 ≤ d) {v0 : Nat}  {w : zH}   : ∀ (n : Nat) (v3 : Int32) (h : zH), f_X3_study_l14 N v0 n v3 h = some w → Z Γ m_X3_study d h0 (zoV w) 14 [(0, .ref v0), (3, .int v3)] [] h := by
  intro n
  induction n with
  | zero => intro v3 h hf; cases hf
  | succ n ih =>
    intro v3 h hf
    rw [f_X3_study_l14] at hf
    refine z_iload_n 1 dX3_study_14 rfl rfl ?_
    refine z_aload_n 0 dX3_study_15 rfl rfl ?_
    refine z_getI dX3_study_16 zc3 (by decide) wf_X3_40 hf fun x3 hf => ?_
    refine z_icmp_ge 62 dX3_study_19 (by decide) hf (fun hf => ?_) (fun hf => ?_)
    · exact z_vret dX3_study_62 rfl (by cases hf; rfl)
    · refine z_iconst (0 : Int32) dX3_study_22 (by decide) ?_
      refine z_istore [(4, .int (0 : Int32)), (0, .ref v0), (3, .int v3)] dX3_study_23 (by decide) rfl ?_
      refine Z.sub [1, 2, 0] rfl (zl_X3_study_25 hd (fun h6 hf => ?_) N (0 : Int32) h hf)
      · refine z_iinc (v3 + (1 : Int32)) 1 [(3, .int (v3 + (1 : Int32))), (0, .ref v0)] dX3_study_56 rfl rfl (by decide) rfl ?_
        refine z_goto 14 dX3_study_59 (by decide) ?_
        exact Z.sub [1, 0] rfl (ih (v3 + (1 : Int32)) h6 hf)
set_option maxRecDepth 4000 in
theorem zc_X3_study {Γ : zG} {N d : Nat} (hd : 13 ≤ d) {a : Nat} {p1 : Nat} {p2 : Int32} {h : zH} {w : zH} (hf : f_X3_study N a p1 p2 h = some w) : Zm Γ m_X3_study d [.ref a, .ref p1, .int p2] h (zoV w) := by
  unfold f_X3_study at hf
  refine z_meth rfl (plainFor_of_name wpl_X3) (by simp [lg_sl, Value.category, zml, m_X3_study]) ?_
  refine z_aload_n 0 dX3_study_0 rfl rfl ?_
  refine z_aload_n 1 dX3_study_1 rfl rfl ?_
  refine z_iload_n 2 dX3_study_2 rfl rfl ?_
  refine z_cV_v (d' := d - 1) (As := [.ref p1, .int p2]) (rest := []) dX3_study_3 lk_X3_32 rfl hf (fun w1 e1 => zc_X3_takeHand (by omega) e1) (by omega) rfl rfl (Nat.le_of_ble_eq_true rfl) fun y1 hf => ?_
  refine z_aload_n 0 dX3_study_6 rfl rfl ?_
  refine z_iconst (0 : Int32) dX3_study_7 (by decide) ?_
  refine z_iconst (0 : Int32) dX3_study_8 (by decide) ?_
  refine z_cV_v (d' := d - 1) (As := [.int (0 : Int32), .int (0 : Int32)]) (rest := []) dX3_study_9 lk_X3_36 rfl hf (fun w1 e1 => zc_X3_include (by omega) e1) (by omega) rfl rfl (Nat.le_of_ble_eq_true rfl) fun y2 hf => ?_
  refine z_iconst (0 : Int32) dX3_study_12 (by decide) ?_
  refine z_istore_n [(3, .int (0 : Int32)), (0, .ref a), (1, .ref p1), (2, .int p2)] dX3_study_13 rfl (by decide) rfl ?_
  refine Z.sub [1, 0] rfl (zl_X3_study_14 hd  N (0 : Int32) y2 hf)
set_option maxRecDepth 4000 in
theorem zc_X3_contains {Γ : zG} {N d : Nat} (hd : 11 ≤ d) {a : Nat} {p1 : Int32} {p2 : Int32} {h : zH} {w : Int32 × zH} (hf : f_X3_contains N a p1 p2 h = some w) : Zm Γ m_X3_contains d [.ref a, .int p1, .int p2] h (zoI w) := by
  unfold f_X3_contains at hf
  refine z_meth rfl (plainFor_of_name wpl_X3) (by simp [lg_sl, Value.category, zml, m_X3_contains]) ?_
  refine z_aload_n 0 dX3_contains_0 rfl rfl ?_
  refine z_iload_n 1 dX3_contains_1 rfl rfl ?_
  refine z_iload_n 2 dX3_contains_2 rfl rfl ?_
  refine z_cV_i (d' := d - 1) (As := [.int p1, .int p2]) (rest := []) dX3_contains_3 lk_X3_83 rfl hf (fun w1 e1 => zc_X3_hasRoomFor (by omega) e1) (by omega) rfl rfl (Nat.le_of_ble_eq_true rfl) fun y1 hf => ?_
  refine z_if_eq 38 dX3_contains_6 (by decide) hf (fun hf => ?_) (fun hf => ?_)
  · refine z_iconst (0 : Int32) dX3_contains_38 (by decide) ?_
    exact z_zret dX3_contains_39 rfl (Or.inl rfl) (by cases hf; rfl)
  · refine z_aload_n 0 dX3_contains_9 rfl rfl ?_
    refine z_getA dX3_contains_10 zc3 (by decide) wf_X3_19 hf fun x2 hf => ?_
    refine z_iconst (2 : Int32) dX3_contains_13 (by decide) ?_
    refine z_iload_n 1 dX3_contains_14 rfl rfl ?_
    refine z_imul dX3_contains_15 ?_
    refine z_iload_n 2 dX3_contains_16 rfl rfl ?_
    refine z_bipush (64 : Int32) dX3_contains_17 (by decide) ?_
    refine z_idiv dX3_contains_19 hf fun x3 hf => ?_
    refine z_iadd dX3_contains_20 ?_
    refine z_laload dX3_contains_21 hf fun x4 hf => ?_
    refine z_iload_n 2 dX3_contains_22 rfl rfl ?_
    refine z_bipush (64 : Int32) dX3_contains_23 (by decide) ?_
    refine z_irem dX3_contains_25 hf fun x5 hf => ?_
    refine z_lushr dX3_contains_26 ?_
    refine z_lconst (1 : Int64) dX3_contains_27 (by decide) ?_
    refine z_land dX3_contains_28 ?_
    refine z_lconst (0 : Int64) dX3_contains_29 (by decide) ?_
    refine z_lcmp dX3_contains_30 ?_
    refine z_if_eq 38 dX3_contains_31 (by decide) hf (fun hf => ?_) (fun hf => ?_)
    · refine z_iconst (0 : Int32) dX3_contains_38 (by decide) ?_
      exact z_zret dX3_contains_39 rfl (Or.inl rfl) (by cases hf; rfl)
    · refine z_iconst (1 : Int32) dX3_contains_34 (by decide) ?_
      refine z_goto 39 dX3_contains_35 (by decide) ?_
      exact z_zret dX3_contains_39 rfl (Or.inr rfl) (by cases hf; rfl)
set_option maxRecDepth 4000 in
theorem zl_X3_isReached_2 {Γ : zG} {N d : Nat} {h0 : zH} (hd : 12 ≤ d) {v0 : Nat} {v1 : Int32}  {w : Int32 × zH}   : ∀ (n : Nat) (v2 : Int32) (h : zH), f_X3_isReached_l2 N v0 v1 n v2 h = some w → Z Γ m_X3_isReached d h0 (zoI w) 2 [(0, .ref v0), (1, .int v1), (2, .int v2)] [] h := by
  intro n
  induction n with
  | zero => intro v2 h hf; cases hf
  | succ n ih =>
    intro v2 h hf
    rw [f_X3_isReached_l2] at hf
    refine z_iload_n 2 dX3_isReached_2 rfl rfl ?_
    refine z_aload_n 0 dX3_isReached_3 rfl rfl ?_
    refine z_getI dX3_isReached_4 zc3 (by decide) wf_X3_40 hf fun x1 hf => ?_
    refine z_icmp_ge 27 dX3_isReached_7 (by decide) hf (fun hf => ?_) (fun hf => ?_)
    · refine z_iconst (0 : Int32) dX3_isReached_27 (by decide) ?_
      exact z_zret dX3_isReached_28 rfl (Or.inl rfl) (by cases hf; rfl)
    · refine z_aload_n 0 dX3_isReached_10 rfl rfl ?_
      refine z_iload_n 2 dX3_isReached_11 rfl rfl ?_
      refine z_iload_n 1 dX3_isReached_12 rfl rfl ?_
      refine z_cV_i (d' := d - 1) (As := [.int v2, .int v1]) (rest := []) dX3_isReached_13 lk_X3_100 rfl hf (fun w1 e1 => zc_X3_contains (by omega) e1) (by omega) rfl rfl (Nat.le_of_ble_eq_true rfl) fun y2 hf => ?_
      refine z_if_eq 21 dX3_isReached_16 (by decide) hf (fun hf => ?_) (fun hf => ?_)
      · refine z_iinc (v2 + (1 : Int32)) 2 [(2, .int (v2 + (1 : Int32))), (0, .ref v0), (1, .int v1)] dX3_isReached_21 rfl rfl (by decide) rfl ?_
        refine z_goto 2 dX3_isReached_24 (by decide) ?_
        exact Z.sub [1, 2, 0] rfl (ih (v2 + (1 : Int32)) y2.2 hf)
      · refine z_iconst (1 : Int32) dX3_isReached_19 (by decide) ?_
        exact z_zret dX3_isReached_20 rfl (Or.inr rfl) (by cases hf; rfl)
set_option maxRecDepth 4000 in
theorem zc_X3_isReached {Γ : zG} {N d : Nat} (hd : 12 ≤ d) {a : Nat} {p1 : Int32} {h : zH} {w : Int32 × zH} (hf : f_X3_isReached N a p1 h = some w) : Zm Γ m_X3_isReached d [.ref a, .int p1] h (zoI w) := by
  unfold f_X3_isReached at hf
  refine z_meth rfl (plainFor_of_name wpl_X3) (by simp [lg_sl, Value.category, zml, m_X3_isReached]) ?_
  refine z_iconst (1 : Int32) dX3_isReached_0 (by decide) ?_
  refine z_istore_n [(2, .int (1 : Int32)), (0, .ref a), (1, .int p1)] dX3_isReached_1 rfl (by decide) rfl ?_
  refine Z.sub [1, 2, 0] rfl (zl_X3_isReached_2 hd  N (1 : Int32) h hf)
set_option maxRecDepth 4000 in
theorem zl_X3_countReached_4 {Γ : zG} {N d : Nat} {h0 : zH} (hd : 13 ≤ d) {v0 : Nat}  {w : Int32 × zH}   : ∀ (n : Nat) (v1 : Int32) (v2 : Int32) (h : zH), f_X3_countReached_l4 N v0 n v1 v2 h = some w → Z Γ m_X3_countReached d h0 (zoI w) 4 [(0, .ref v0), (1, .int v1), (2, .int v2)] [] h := by
  intro n
  induction n with
  | zero => intro v1 v2 h hf; cases hf
  | succ n ih =>
    intro v1 v2 h hf
    rw [f_X3_countReached_l4] at hf
    refine z_iload_n 2 dX3_countReached_4 rfl rfl ?_
    refine z_bipush (120 : Int32) dX3_countReached_5 (by decide) ?_
    refine z_icmp_ge 32 dX3_countReached_7 (by decide) hf (fun hf => ?_) (fun hf => ?_)
    · refine z_iload_n 1 dX3_countReached_32 rfl rfl ?_
      exact z_iret dX3_countReached_33 rfl (by cases hf; rfl)
    · refine z_iload_n 1 dX3_countReached_10 rfl rfl ?_
      refine z_aload_n 0 dX3_countReached_11 rfl rfl ?_
      refine z_iload_n 2 dX3_countReached_12 rfl rfl ?_
      refine z_cV_i (d' := d - 1) (As := [.int v2]) (rest := [.int v1]) dX3_countReached_13 lk_X3_96 rfl hf (fun w1 e1 => zc_X3_isReached (by omega) e1) (by omega) rfl rfl (Nat.le_of_ble_eq_true rfl) fun y1 hf => ?_
      refine zjn_elim (P := fun (j24 : Int32 → Int32 → Int32 → zH → Option (Int32 × zH)) => ∀ (v2 : Int32) (s0 : Int32) (s1 : Int32) (h : zH), j24 v2 s0 s1 h = some w → Z Γ m_X3_countReached d h0 (zoI w) 24 [(0, .ref v0), (2, .int v2)] [.int s1, .int s0] h) hf (fun v2 s0 s1 h hf => ?_) (fun j24 hj24 hf => ?_)
      · refine z_iadd dX3_countReached_24 ?_
        refine z_istore_n [(1, .int (s0 + s1)), (0, .ref v0), (2, .int v2)] dX3_countReached_25 rfl (by decide) rfl ?_
        refine z_iinc (v2 + (1 : Int32)) 2 [(2, .int (v2 + (1 : Int32))), (1, .int (s0 + s1)), (0, .ref v0)] dX3_countReached_26 rfl rfl (by decide) rfl ?_
        refine z_goto 4 dX3_countReached_29 (by decide) ?_
        exact Z.sub [2, 1, 0] rfl (ih (s0 + s1) (v2 + (1 : Int32)) h hf)
      · refine z_if_eq 23 dX3_countReached_16 (by decide) hf (fun hf => ?_) (fun hf => ?_)
        · refine z_iconst (0 : Int32) dX3_countReached_23 (by decide) ?_
          exact Z.sub [0, 2] rfl (hj24 v2 v1 (0 : Int32) y1.2 hf)
        · refine z_iconst (1 : Int32) dX3_countReached_19 (by decide) ?_
          refine z_goto 24 dX3_countReached_20 (by decide) ?_
          exact Z.sub [0, 2] rfl (hj24 v2 v1 (1 : Int32) y1.2 hf)
set_option maxRecDepth 4000 in
theorem zc_X3_countReached {Γ : zG} {N d : Nat} (hd : 13 ≤ d) {a : Nat} {h : zH} {w : Int32 × zH} (hf : f_X3_countReached N a h = some w) : Zm Γ m_X3_countReached d [.ref a] h (zoI w) := by
  unfold f_X3_countReached at hf
  refine z_meth rfl (plainFor_of_name wpl_X3) (by simp [lg_sl, Value.category, zml, m_X3_countReached]) ?_
  refine z_iconst (0 : Int32) dX3_countReached_0 (by decide) ?_
  refine z_istore_n [(1, .int (0 : Int32)), (0, .ref a)] dX3_countReached_1 rfl (by decide) rfl ?_
  refine z_iconst (0 : Int32) dX3_countReached_2 (by decide) ?_
  refine z_istore_n [(2, .int (0 : Int32)), (1, .int (0 : Int32)), (0, .ref a)] dX3_countReached_3 rfl (by decide) rfl ?_
  refine Z.sub [2, 1, 0] rfl (zl_X3_countReached_4 hd  N (0 : Int32) (0 : Int32) h hf)
set_option maxRecDepth 4000 in
theorem zc_X8_reach {Γ : zG} {N d : Nat} (hd : 14 ≤ d) {a : Nat} {p1 : Int32} {h : zH} {w : (Int32 ⊕ Nat) × zH} (hf : f_X8_reach N a p1 h = some w) : Zm Γ m_X8_reach d [.ref a, .int p1] h (zoTI w) := by
  unfold f_X8_reach at hf
  refine z_meth rfl (plainFor_of_name wpl_X8) (by simp [lg_sl, Value.category, zml, m_X8_reach]) ?_
  refine z_aload_n 0 dX8_reach_0 rfl rfl ?_
  refine z_getA dX8_reach_1 zc8 (by decide) wf_X8_42 hf fun x1 hf => ?_
  refine z_aload_n 0 dX8_reach_4 rfl rfl ?_
  refine z_iload_n 1 dX8_reach_5 rfl rfl ?_
  refine z_cV_ta (d' := d - 1) (As := [.int p1]) (rest := [.ref x1]) dX8_reach_6 lk_X8_119 rfl hf (fun w1 e1 => zc_X8_existing (by omega) e1) (by omega) rfl rfl (Nat.le_of_ble_eq_true rfl) (fun y2 x3 hf => ?_) (fun y2 k4 hf => ?_)
  · refine z_aload_n 0 dX8_reach_9 rfl rfl ?_
    refine z_getA dX8_reach_10 zc8 (by decide) wf_X8_28 hf fun x5 hf => ?_
    refine z_getI dX8_reach_13 zc0 (by decide) wf_X8_86 hf fun x6 hf => ?_
    refine z_cV_v (d' := d - 1) (As := [.ref x3, .int x6]) (rest := []) dX8_reach_16 lk_X8_176 rfl hf (fun w1 e1 => zc_X3_study (by omega) e1) (by omega) rfl rfl (Nat.le_of_ble_eq_true rfl) fun y7 hf => ?_
    refine z_aload_n 0 dX8_reach_19 rfl rfl ?_
    refine z_getA dX8_reach_20 zc8 (by decide) wf_X8_42 hf fun x8 hf => ?_
    refine z_cV_i (d' := d - 1) (As := []) (rest := []) dX8_reach_23 lk_X8_180 rfl hf (fun w1 e1 => zc_X3_countReached (by omega) e1) (by omega) rfl rfl (Nat.le_of_ble_eq_true rfl) fun y9 hf => ?_
    exact z_iret dX8_reach_26 rfl (by cases hf; rfl)
  · exact zx_out rfl (by cases hf; rfl)
set_option maxRecDepth 4000 in
theorem zc_L_reach {Γ : zG} {N d : Nat} (hd : 15 ≤ d) {p1 : Nat} {p2 : Int32} {h : zH} {w : Int32 × zH} (hf : f_L_reach N p1 p2 h = some w) : Zm Γ m_L_reach d [.ref p1, .int p2] h (zoI w) := by
  unfold f_L_reach at hf
  refine z_methH (by decide) (by decide +kernel) (by simp [lg_sl, Value.category, zml, m_L_reach]) ?_
  refine z_aload_n 0 dL_reach_0 rfl rfl ?_
  refine z_iload_n 1 dL_reach_1 rfl rfl ?_
  refine z_cV_ti (d' := d - 1) (As := [.int p2]) (rest := []) dL_reach_2 lk_L_75 rfl hf (fun w1 e1 => zc_X8_reach (by omega) e1) (by omega) rfl rfl (Nat.le_of_ble_eq_true rfl) (fun y1 x2 hf => ?_) (fun y1 k3 hf => ?_)
  · exact z_iret dL_reach_5 rfl (by cases hf; rfl)
  · by_cases e0 : k3 = 2
    · rw [if_pos e0] at hf
      subst e0
      refine zx_catch (by decide) [] (0, 5, 6, 50) [] rfl (fun z hz => absurd hz List.not_mem_nil) (by decide) (by decide) wc_L_50 wct_2 fun q4 => ?_
      refine z_astore_n [(2, .ref q4), (0, .ref p1), (1, .int p2)] dL_reach_6 rfl (by decide) rfl ?_
      refine z_ldc (-2000000097 : Int32) dL_reach_7 wk_L_52 ?_
      exact z_iret dL_reach_9 rfl (by cases hf; rfl)
    · rw [if_neg e0] at hf
      cases hf
set_option maxRecDepth 4000 in
theorem zl_X2_opposite_4 {Γ : zG} {N d : Nat} {h0 : zH} (hd : 12 ≤ d) {v0 : Nat} {v1 : Int32}  {w : Int32 × zH}   : ∀ (n : Nat) (v2 : Int32) (v3 : Int32) (h : zH), f_X2_opposite_l4 N v0 v1 n v2 v3 h = some w → Z Γ m_X2_opposite d h0 (zoI w) 4 [(0, .ref v0), (1, .int v1), (2, .int v2), (3, .int v3)] [] h := by
  intro n
  induction n with
  | zero => intro v2 v3 h hf; cases hf
  | succ n ih =>
    intro v2 v3 h hf
    rw [f_X2_opposite_l4] at hf
    refine z_iload_n 3 dX2_opposite_4 rfl rfl ?_
    refine z_bipush (120 : Int32) dX2_opposite_5 (by decide) ?_
    refine z_icmp_ge 34 dX2_opposite_7 (by decide) hf (fun hf => ?_) (fun hf => ?_)
    · refine z_iconst (0 : Int32) dX2_opposite_34 (by decide) ?_
      exact z_iret dX2_opposite_35 rfl (by cases hf; rfl)
    · refine z_aload_n 0 dX2_opposite_10 rfl rfl ?_
      refine z_iload_n 2 dX2_opposite_11 rfl rfl ?_
      refine z_iload_n 1 dX2_opposite_12 rfl rfl ?_
      refine z_cV_i (d' := d - 1) (As := [.int v2, .int v1]) (rest := []) dX2_opposite_13 lk_X2_34 rfl hf (fun w1 e1 => zc_X2_times (by omega) e1) (by omega) rfl rfl (Nat.le_of_ble_eq_true rfl) fun y1 hf => ?_
      refine z_istore [(4, .int y1.1), (0, .ref v0), (1, .int v1), (2, .int v2), (3, .int v3)] dX2_opposite_16 (by decide) rfl ?_
      refine z_iload 0 dX2_opposite_18 rfl ?_
      refine z_if_ne 25 dX2_opposite_20 (by decide) hf (fun hf => ?_) (fun hf => ?_)
      · refine z_iload_n 3 dX2_opposite_23 rfl rfl ?_
        exact z_iret dX2_opposite_24 rfl (by cases hf; rfl)
      · refine z_iload 0 dX2_opposite_25 rfl ?_
        refine z_istore_n [(2, .int y1.1), (4, .int y1.1), (0, .ref v0), (1, .int v1), (3, .int v3)] dX2_opposite_27 rfl (by decide) rfl ?_
        refine z_iinc (v3 + (1 : Int32)) 4 [(3, .int (v3 + (1 : Int32))), (2, .int y1.1), (4, .int y1.1), (0, .ref v0), (1, .int v1)] dX2_opposite_28 rfl rfl (by decide) rfl ?_
        refine z_goto 4 dX2_opposite_31 (by decide) ?_
        exact Z.sub [3, 4, 1, 0] rfl (ih y1.1 (v3 + (1 : Int32)) y1.2 hf)
set_option maxRecDepth 4000 in
theorem zc_X2_opposite {Γ : zG} {N d : Nat} (hd : 12 ≤ d) {a : Nat} {p1 : Int32} {h : zH} {w : Int32 × zH} (hf : f_X2_opposite N a p1 h = some w) : Zm Γ m_X2_opposite d [.ref a, .int p1] h (zoI w) := by
  unfold f_X2_opposite at hf
  refine z_meth rfl (plainFor_of_name wpl_X2) (by simp [lg_sl, Value.category, zml, m_X2_opposite]) ?_
  refine z_iconst (0 : Int32) dX2_opposite_0 (by decide) ?_
  refine z_istore_n [(2, .int (0 : Int32)), (0, .ref a), (1, .int p1)] dX2_opposite_1 rfl (by decide) rfl ?_
  refine z_iconst (0 : Int32) dX2_opposite_2 (by decide) ?_
  refine z_istore_n [(3, .int (0 : Int32)), (2, .int (0 : Int32)), (0, .ref a), (1, .int p1)] dX2_opposite_3 rfl (by decide) rfl ?_
  refine Z.sub [2, 3, 1, 0] rfl (zl_X2_opposite_4 hd  N (0 : Int32) (0 : Int32) h hf)
set_option maxRecDepth 4000 in
theorem zc_X0_winningElement {Γ : zG} {N d : Nat} (hd : 13 ≤ d) {a : Nat} {h : zH} {w : Int32 × zH} (hf : f_X0_winningElement N a h = some w) : Zm Γ m_X0_winningElement d [.ref a] h (zoI w) := by
  unfold f_X0_winningElement at hf
  refine z_meth rfl (plainFor_of_name wpl_X0) (by simp [lg_sl, Value.category, zml, m_X0_winningElement]) ?_
  refine z_aload_n 0 dX0_winningElement_0 rfl rfl ?_
  refine z_getA dX0_winningElement_1 zc0 (by decide) wf_X0_9 hf fun x1 hf => ?_
  refine z_aload_n 0 dX0_winningElement_4 rfl rfl ?_
  refine z_iconst (0 : Int32) dX0_winningElement_5 (by decide) ?_
  refine z_aload_n 0 dX0_winningElement_6 rfl rfl ?_
  refine z_getA dX0_winningElement_7 zc0 (by decide) wf_X0_34 hf fun x2 hf => ?_
  refine z_cV_i (d' := d - 1) (As := []) (rest := [.int (0 : Int32), .ref a, .ref x1]) dX0_winningElement_10 lk_X0_104 rfl hf (fun w1 e1 => zc_X6_size (by omega) e1) (by omega) rfl rfl (Nat.le_of_ble_eq_true rfl) fun y3 hf => ?_
  refine z_cV_i (d' := d - 1) (As := [.int (0 : Int32), .int y3.1]) (rest := [.ref x1]) dX0_winningElement_13 lk_X0_108 rfl hf (fun w1 e1 => zc_X0_productOfBids (by omega) e1) (by omega) rfl rfl (Nat.le_of_ble_eq_true rfl) fun y4 hf => ?_
  refine z_cV_i (d' := d - 1) (As := [.int y4.1]) (rest := []) dX0_winningElement_16 lk_X0_111 rfl hf (fun w1 e1 => zc_X2_opposite (by omega) e1) (by omega) rfl rfl (Nat.le_of_ble_eq_true rfl) fun y5 hf => ?_
  exact z_iret dX0_winningElement_19 rfl (by cases hf; rfl)
set_option maxRecDepth 4000 in
theorem zl_X3_fewestCardsFor_4 {Γ : zG} {N d : Nat} {h0 : zH} (hd : 12 ≤ d) {v0 : Nat} {v1 : Int32}  {w : Int32 × zH}   : ∀ (n : Nat) (v2 : Int32) (v3 : Int32) (h : zH), f_X3_fewestCardsFor_l4 N v0 v1 n v2 v3 h = some w → Z Γ m_X3_fewestCardsFor d h0 (zoI w) 4 [(0, .ref v0), (1, .int v1), (2, .int v2), (3, .int v3)] [] h := by
  intro n
  induction n with
  | zero => intro v2 v3 h hf; cases hf
  | succ n ih =>
    intro v2 v3 h hf
    rw [f_X3_fewestCardsFor_l4] at hf
    refine z_iload_n 3 dX3_fewestCardsFor_4 rfl rfl ?_
    refine z_aload_n 0 dX3_fewestCardsFor_5 rfl rfl ?_
    refine z_getI dX3_fewestCardsFor_6 zc3 (by decide) wf_X3_40 hf fun x1 hf => ?_
    refine z_icmp_ge 47 dX3_fewestCardsFor_9 (by decide) hf (fun hf => ?_) (fun hf => ?_)
    · refine z_iload_n 2 dX3_fewestCardsFor_47 rfl rfl ?_
      exact z_iret dX3_fewestCardsFor_48 rfl (by cases hf; rfl)
    · refine z_iload_n 3 dX3_fewestCardsFor_12 rfl rfl ?_
      refine z_cS_i (d' := d - 1) (As := [.int v3]) (rest := []) dX3_fewestCardsFor_13 lk_X3_112 hf (fun w1 e1 => zc_J6_bitCount_0f7a4 (by omega) e1) (by omega) rfl rfl (Nat.le_of_ble_eq_true rfl) fun y2 hf => ?_
      refine z_istore [(4, .int y2.1), (0, .ref v0), (1, .int v1), (2, .int v2), (3, .int v3)] dX3_fewestCardsFor_16 (by decide) rfl ?_
      refine z_aload_n 1 dX3_fewestCardsFor_18 rfl rfl ?_
      refine z_iload_n 4 dX3_fewestCardsFor_19 rfl rfl ?_
      refine z_iload_n 2 dX3_fewestCardsFor_20 rfl rfl ?_
      refine z_cV_i (d' := d - 1) (As := [.int v3, .int v1]) (rest := []) dX3_fewestCardsFor_21 lk_X3_100 rfl hf (fun w1 e1 => zc_X3_contains (by omega) e1) (by omega) rfl rfl (Nat.le_of_ble_eq_true rfl) fun y3 hf => ?_
      refine zjn_elim (P := fun (j41 : Int32 → Int32 → zH → Option (Int32 × zH)) => ∀ (v2 : Int32) (v3 : Int32) (h : zH), j41 v2 v3 h = some w → Z Γ m_X3_fewestCardsFor d h0 (zoI w) 41 [(0, .ref v0), (1, .int v1), (2, .int v2), (3, .int v3)] [] h) hf (fun v2 v3 h hf => ?_) (fun j41 hj41 hf => ?_)
      · refine z_iinc (v3 + (1 : Int32)) 3 [(3, .int (v3 + (1 : Int32))), (0, .ref v0), (1, .int v1), (2, .int v2)] dX3_fewestCardsFor_41 rfl rfl (by decide) rfl ?_
        refine z_goto 4 dX3_fewestCardsFor_44 (by decide) ?_
        exact Z.sub [1, 2, 3, 0] rfl (ih v2 (v3 + (1 : Int32)) h hf)
      · refine z_if_eq 41 dX3_fewestCardsFor_24 (by decide) hf (fun hf => ?_) (fun hf => ?_)
        · exact Z.sub [1, 2, 3, 4] rfl (hj41 v2 v3 y3.2 hf)
        · refine z_iload_n 3 dX3_fewestCardsFor_27 rfl rfl ?_
          refine z_iconst (-1 : Int32) dX3_fewestCardsFor_28 (by decide) ?_
          refine zjn_elim (P := fun (j38 : Int32 → Int32 → zH → Option (Int32 × zH)) => ∀ (v3 : Int32) (v4 : Int32) (h : zH), j38 v3 v4 h = some w → Z Γ m_X3_fewestCardsFor d h0 (zoI w) 38 [(0, .ref v0), (1, .int v1), (3, .int v3), (4, .int v4)] [] h) hf (fun v3 v4 h hf => ?_) (fun j38 hj38 hf => ?_)
          · refine z_iload 3 dX3_fewestCardsFor_38 rfl ?_
            refine z_istore_n [(2, .int v4), (0, .ref v0), (1, .int v1), (3, .int v3), (4, .int v4)] dX3_fewestCardsFor_40 rfl (by decide) rfl ?_
            exact Z.sub [1, 2, 0, 3] rfl (hj41 v4 v3 h hf)
          · refine z_icmp_eq 38 dX3_fewestCardsFor_29 (by decide) hf (fun hf => ?_) (fun hf => ?_)
            · exact Z.sub [1, 2, 4, 0] rfl (hj38 v3 y2.1 y3.2 hf)
            · refine z_iload 0 dX3_fewestCardsFor_32 rfl ?_
              refine z_iload_n 3 dX3_fewestCardsFor_34 rfl rfl ?_
              refine z_icmp_ge 41 dX3_fewestCardsFor_35 (by decide) hf (fun hf => ?_) (fun hf => ?_)
              · exact Z.sub [1, 2, 3, 4] rfl (hj41 v2 v3 y3.2 hf)
              · exact Z.sub [1, 2, 4, 0] rfl (hj38 v3 y2.1 y3.2 hf)
set_option maxRecDepth 4000 in
theorem zc_X3_fewestCardsFor {Γ : zG} {N d : Nat} (hd : 12 ≤ d) {a : Nat} {p1 : Int32} {h : zH} {w : Int32 × zH} (hf : f_X3_fewestCardsFor N a p1 h = some w) : Zm Γ m_X3_fewestCardsFor d [.ref a, .int p1] h (zoI w) := by
  unfold f_X3_fewestCardsFor at hf
  refine z_meth rfl (plainFor_of_name wpl_X3) (by simp [lg_sl, Value.category, zml, m_X3_fewestCardsFor]) ?_
  refine z_iconst (-1 : Int32) dX3_fewestCardsFor_0 (by decide) ?_
  refine z_istore_n [(2, .int (-1 : Int32)), (0, .ref a), (1, .int p1)] dX3_fewestCardsFor_1 rfl (by decide) rfl ?_
  refine z_iconst (1 : Int32) dX3_fewestCardsFor_2 (by decide) ?_
  refine z_istore_n [(3, .int (1 : Int32)), (2, .int (-1 : Int32)), (0, .ref a), (1, .int p1)] dX3_fewestCardsFor_3 rfl (by decide) rfl ?_
  refine Z.sub [2, 3, 1, 0] rfl (zl_X3_fewestCardsFor_4 hd  N (-1 : Int32) (1 : Int32) h hf)
set_option maxRecDepth 4000 in
theorem zc_X8_fewest {Γ : zG} {N d : Nat} (hd : 14 ≤ d) {a : Nat} {p1 : Int32} {h : zH} {w : (Int32 ⊕ Nat) × zH} (hf : f_X8_fewest N a p1 h = some w) : Zm Γ m_X8_fewest d [.ref a, .int p1] h (zoTI w) := by
  unfold f_X8_fewest at hf
  refine z_meth rfl (plainFor_of_name wpl_X8) (by simp [lg_sl, Value.category, zml, m_X8_fewest]) ?_
  refine z_aload_n 0 dX8_fewest_0 rfl rfl ?_
  refine z_getA dX8_fewest_1 zc8 (by decide) wf_X8_42 hf fun x1 hf => ?_
  refine z_aload_n 0 dX8_fewest_4 rfl rfl ?_
  refine z_iload_n 1 dX8_fewest_5 rfl rfl ?_
  refine z_cV_ta (d' := d - 1) (As := [.int p1]) (rest := [.ref x1]) dX8_fewest_6 lk_X8_119 rfl hf (fun w1 e1 => zc_X8_existing (by omega) e1) (by omega) rfl rfl (Nat.le_of_ble_eq_true rfl) (fun y2 x3 hf => ?_) (fun y2 k4 hf => ?_)
  · refine z_aload_n 0 dX8_fewest_9 rfl rfl ?_
    refine z_getA dX8_fewest_10 zc8 (by decide) wf_X8_28 hf fun x5 hf => ?_
    refine z_getI dX8_fewest_13 zc0 (by decide) wf_X8_86 hf fun x6 hf => ?_
    refine z_cV_v (d' := d - 1) (As := [.ref x3, .int x6]) (rest := []) dX8_fewest_16 lk_X8_176 rfl hf (fun w1 e1 => zc_X3_study (by omega) e1) (by omega) rfl rfl (Nat.le_of_ble_eq_true rfl) fun y7 hf => ?_
    refine z_aload_n 0 dX8_fewest_19 rfl rfl ?_
    refine z_getA dX8_fewest_20 zc8 (by decide) wf_X8_42 hf fun x8 hf => ?_
    refine z_aload_n 0 dX8_fewest_23 rfl rfl ?_
    refine z_getA dX8_fewest_24 zc8 (by decide) wf_X8_28 hf fun x9 hf => ?_
    refine z_cV_i (d' := d - 1) (As := []) (rest := [.ref x8]) dX8_fewest_27 lk_X8_189 rfl hf (fun w1 e1 => zc_X0_winningElement (by omega) e1) (by omega) rfl rfl (Nat.le_of_ble_eq_true rfl) fun y10 hf => ?_
    refine z_cV_i (d' := d - 1) (As := [.int y10.1]) (rest := []) dX8_fewest_30 lk_X8_192 rfl hf (fun w1 e1 => zc_X3_fewestCardsFor (by omega) e1) (by omega) rfl rfl (Nat.le_of_ble_eq_true rfl) fun y11 hf => ?_
    exact z_iret dX8_fewest_33 rfl (by cases hf; rfl)
  · exact zx_out rfl (by cases hf; rfl)
set_option maxRecDepth 4000 in
theorem zc_L_fewest {Γ : zG} {N d : Nat} (hd : 15 ≤ d) {p1 : Nat} {p2 : Int32} {h : zH} {w : Int32 × zH} (hf : f_L_fewest N p1 p2 h = some w) : Zm Γ m_L_fewest d [.ref p1, .int p2] h (zoI w) := by
  unfold f_L_fewest at hf
  refine z_methH (by decide) (by decide +kernel) (by simp [lg_sl, Value.category, zml, m_L_fewest]) ?_
  refine z_aload_n 0 dL_fewest_0 rfl rfl ?_
  refine z_iload_n 1 dL_fewest_1 rfl rfl ?_
  refine z_cV_ti (d' := d - 1) (As := [.int p2]) (rest := []) dL_fewest_2 lk_L_85 rfl hf (fun w1 e1 => zc_X8_fewest (by omega) e1) (by omega) rfl rfl (Nat.le_of_ble_eq_true rfl) (fun y1 x2 hf => ?_) (fun y1 k3 hf => ?_)
  · exact z_iret dL_fewest_5 rfl (by cases hf; rfl)
  · by_cases e0 : k3 = 2
    · rw [if_pos e0] at hf
      subst e0
      refine zx_catch (by decide) [] (0, 5, 6, 50) [] rfl (fun z hz => absurd hz List.not_mem_nil) (by decide) (by decide) wc_L_50 wct_2 fun q4 => ?_
      refine z_astore_n [(2, .ref q4), (0, .ref p1), (1, .int p2)] dL_fewest_6 rfl (by decide) rfl ?_
      refine z_ldc (-2000000097 : Int32) dL_fewest_7 wk_L_52 ?_
      exact z_iret dL_fewest_9 rfl (by cases hf; rfl)
    · rw [if_neg e0] at hf
      cases hf
set_option maxRecDepth 4000 in
theorem zl_L_law_788 {Γ : zG} {N d : Nat} {h0 : zH} {L : Nat} {xs : Nat → Int32} {sb : Nat} (hG : Γ.2.2.2.2 = (sb, L, xs)) (hd : 108 ≤ d) {v2 : Int32} {v3 : Nat} {v5 : Nat} {v6 : Nat} {v7 : Nat} {v8 : Int32} {v9 : Int32} {v10 : Nat} {v11 : Int32} {v12 : Int32} {v17 : Int32} {v23 : Int32} {k1 : Int32 → zH → Option ((Int32 ⊕ Nat) × zH)} {w : (Int32 ⊕ Nat) × zH}  (hk1 : ∀ (v18 : Int32) (h : zH), k1 v18 h = some w → Z Γ m_L_law d h0 (zoTI w) 847 [(0, .ref sb), (2, .int v2), (3, .ref v3), (5, .ref v5), (6, .ref v6), (7, .ref v7), (8, .int v8), (9, .int v9), (10, .ref v10), (11, .int v11), (12, .int v12), (18, .int v18), (23, .int v23)] [] h) : ∀ (n : Nat) (v18 : Int32) (v24 : Int32) (h : zH), f_L_law_l788 N (zKa Γ) L xs v2 v3 v5 v6 v7 v8 v9 v10 v11 v12 v17 v23 k1 n v18 v24 h = some w → Z Γ m_L_law d h0 (zoTI w) 788 [(0, .ref sb), (2, .int v2), (3, .ref v3), (5, .ref v5), (6, .ref v6), (7, .ref v7), (8, .int v8), (9, .int v9), (10, .ref v10), (11, .int v11), (12, .int v12), (17, .int v17), (18, .int v18), (23, .int v23), (24, .int v24)] [] h := by
  intro n
  induction n with
  | zero => intro v18 v24 h hf; cases hf
  | succ n ih =>
    intro v18 v24 h hf
    rw [f_L_law_l788] at hf
    refine z_iload 14 dL_law_788 rfl ?_
    refine z_iload 11 dL_law_790 rfl ?_
    refine z_icmp_ge 847 dL_law_792 (by decide) hf (fun hf => ?_) (fun hf => ?_)
    · exact Z.sub [0, 1, 2, 3, 4, 5, 6, 7, 8, 9, 10, 12, 13] rfl (hk1 v18 h hf)
    · refine z_iload 9 dL_law_795 rfl ?_
      refine z_if_eq 847 dL_law_797 (by decide) hf (fun hf => ?_) (fun hf => ?_)
      · exact Z.sub [0, 1, 2, 3, 4, 5, 6, 7, 8, 9, 10, 12, 13] rfl (hk1 v18 h hf)
      · refine z_aload 4 dL_law_800 rfl ?_
        refine z_getA dL_law_802 zc12 (by decide) wf_L_164 hf fun x81 hf => ?_
        refine z_aload 4 dL_law_805 rfl ?_
        refine z_getI dL_law_807 zc12 (by decide) wf_L_288 hf fun x82 hf => ?_
        refine z_aaload dL_law_810 hf fun x83 hf => ?_
        refine z_iload 14 dL_law_811 rfl ?_
        refine z_aaload dL_law_813 hf fun x84 hf => ?_
        refine z_getA dL_law_814 zc9 (by decide) wf_L_182 hf fun x85 hf => ?_
        refine z_aload 4 dL_law_817 rfl ?_
        refine z_getA dL_law_819 zc12 (by decide) wf_L_228 hf fun x86 hf => ?_
        refine z_iload 13 dL_law_822 rfl ?_
        refine z_aaload dL_law_824 hf fun x87 hf => ?_
        refine z_getA dL_law_825 zc9 (by decide) wf_L_182 hf fun x88 hf => ?_
        refine z_cS_a (d' := d - 1) (As := [.ref x85, .ref x88]) (rest := []) dL_law_828 lk_L_116 hf (fun w1 e1 => zc_L_times (by omega) e1) (by omega) rfl rfl (Nat.le_of_ble_eq_true rfl) fun y89 hf => ?_
        refine z_cS_i (d' := d - 1) (As := [.ref y89.1]) (rest := []) dL_law_831 lk_L_112 hf (fun w1 e1 => zc_L_isNeutral (by omega) e1) (by omega) rfl rfl (Nat.le_of_ble_eq_true rfl) fun y90 hf => ?_
        refine zjn_elim (P := fun (j841 : Int32 → Int32 → zH → Option ((Int32 ⊕ Nat) × zH)) => ∀ (v18 : Int32) (v24 : Int32) (h : zH), j841 v18 v24 h = some w → Z Γ m_L_law d h0 (zoTI w) 841 [(0, .ref sb), (2, .int v2), (3, .ref v3), (5, .ref v5), (6, .ref v6), (7, .ref v7), (8, .int v8), (9, .int v9), (10, .ref v10), (11, .int v11), (12, .int v12), (17, .int v17), (18, .int v18), (23, .int v23), (24, .int v24)] [] h) hf (fun v18 v24 h hf => ?_) (fun j841 hj841 hf => ?_)
        · refine z_iinc (v24 + (1 : Int32)) 14 [(24, .int (v24 + (1 : Int32))), (0, .ref sb), (2, .int v2), (3, .ref v3), (5, .ref v5), (6, .ref v6), (7, .ref v7), (8, .int v8), (9, .int v9), (10, .ref v10), (11, .int v11), (12, .int v12), (17, .int v17), (18, .int v18), (23, .int v23)] dL_law_841 rfl rfl (by decide) rfl ?_
          refine z_goto 788 dL_law_844 (by decide) ?_
          exact Z.sub [1, 2, 3, 4, 5, 6, 7, 8, 9, 10, 11, 12, 13, 14, 0] rfl (ih v18 (v24 + (1 : Int32)) h hf)
        · refine z_if_eq 841 dL_law_834 (by decide) hf (fun hf => ?_) (fun hf => ?_)
          · exact Z.sub [0, 1, 2, 3, 4, 5, 6, 7, 8, 9, 10, 11, 12, 13, 14] rfl (hj841 v18 v24 y90.2 hf)
          · refine z_iload 14 dL_law_837 rfl ?_
            refine z_istore [(18, .int v24), (0, .ref sb), (2, .int v2), (3, .ref v3), (5, .ref v5), (6, .ref v6), (7, .ref v7), (8, .int v8), (9, .int v9), (10, .ref v10), (11, .int v11), (12, .int v12), (17, .int v17), (23, .int v23), (24, .int v24)] dL_law_839 (by decide) rfl ?_
            exact Z.sub [1, 2, 3, 4, 5, 6, 7, 8, 9, 10, 11, 12, 0, 13, 14] rfl (hj841 v24 v24 y90.2 hf)
set_option maxRecDepth 4000 in
theorem zl_L_law_964 {Γ : zG} {N d : Nat} {h0 : zH} {L : Nat} {xs : Nat → Int32} {sb : Nat} (hG : Γ.2.2.2.2 = (sb, L, xs)) (hd : 108 ≤ d) {v1 : Int32} {v2 : Int32} {v3 : Nat} {v5 : Nat} {v6 : Nat} {v7 : Nat} {v8 : Int32} {v9 : Int32} {v10 : Nat} {k1 : zH → Option ((Int32 ⊕ Nat) × zH)} {w : (Int32 ⊕ Nat) × zH}  (hk1 : ∀ (h : zH), k1 h = some w → Z Γ m_L_law d h0 (zoTI w) 987 [(0, .ref sb), (1, .int v1), (2, .int v2), (3, .ref v3), (5, .ref v5), (6, .ref v6), (7, .ref v7), (8, .int v8), (9, .int v9), (10, .ref v10)] [] h) : ∀ (n : Nat) (v19 : Int32) (h : zH), f_L_law_l964 N (zKa Γ) L xs v1 v2 v3 v5 v6 v7 v8 v9 v10 k1 n v19 h = some w → Z Γ m_L_law d h0 (zoTI w) 964 [(0, .ref sb), (1, .int v1), (2, .int v2), (3, .ref v3), (5, .ref v5), (6, .ref v6), (7, .ref v7), (8, .int v8), (9, .int v9), (10, .ref v10), (19, .int v19)] [] h := by
  intro n
  induction n with
  | zero => intro v19 h hf; cases hf
  | succ n ih =>
    intro v19 h hf
    rw [f_L_law_l964] at hf
    refine z_iload 10 dL_law_964 rfl ?_
    refine z_if_le 987 dL_law_966 (by decide) hf (fun hf => ?_) (fun hf => ?_)
    · exact Z.sub [0, 1, 2, 3, 4, 5, 6, 7, 8, 9] rfl (hk1 h hf)
    · refine z_aload 6 dL_law_969 rfl ?_
      refine z_iload 10 dL_law_971 rfl ?_
      refine z_aload 6 dL_law_973 rfl ?_
      refine z_iload 10 dL_law_975 rfl ?_
      refine z_iconst (1 : Int32) dL_law_977 (by decide) ?_
      refine z_isub dL_law_978 ?_
      refine z_aaldO dL_law_979 hf (fun hf => ?_) (fun x141 hf => ?_)
      · refine z_aastN dL_law_980 hf fun h142 hf => ?_
        refine z_iinc (v19 + (-1 : Int32)) 10 [(19, .int (v19 + (-1 : Int32))), (0, .ref sb), (1, .int v1), (2, .int v2), (3, .ref v3), (5, .ref v5), (6, .ref v6), (7, .ref v7), (8, .int v8), (9, .int v9), (10, .ref v10)] dL_law_981 rfl rfl (by decide) rfl ?_
        refine z_goto 964 dL_law_984 (by decide) ?_
        exact Z.sub [1, 2, 3, 4, 5, 6, 7, 8, 9, 10, 0] rfl (ih (v19 + (-1 : Int32)) h142 hf)
      · refine z_aastore dL_law_980 hf fun h143 hf => ?_
        refine z_iinc (v19 + (-1 : Int32)) 10 [(19, .int (v19 + (-1 : Int32))), (0, .ref sb), (1, .int v1), (2, .int v2), (3, .ref v3), (5, .ref v5), (6, .ref v6), (7, .ref v7), (8, .int v8), (9, .int v9), (10, .ref v10)] dL_law_981 rfl rfl (by decide) rfl ?_
        refine z_goto 964 dL_law_984 (by decide) ?_
        exact Z.sub [1, 2, 3, 4, 5, 6, 7, 8, 9, 10, 0] rfl (ih (v19 + (-1 : Int32)) h143 hf)
set_option maxRecDepth 4000 in
theorem zl_L_law_195 {Γ : zG} {N d : Nat} {h0 : zH} {L : Nat} {xs : Nat → Int32} {sb : Nat} (hG : Γ.2.2.2.2 = (sb, L, xs)) (hd : 108 ≤ d) {v2 : Int32} {v3 : Nat} {v5 : Nat} {v6 : Nat} {v7 : Nat} {k1 : Int32 → Int32 → zH → Option ((Int32 ⊕ Nat) × zH)} {w : (Int32 ⊕ Nat) × zH}  (hk1 : ∀ (v1 : Int32) (v8 : Int32) (h : zH), k1 v1 v8 h = some w → Z Γ m_L_law d h0 (zoTI w) 1021 [(0, .ref sb), (1, .int v1), (2, .int v2), (3, .ref v3), (7, .ref v7), (8, .int v8)] [] h) : ∀ (n : Nat) (v1 : Int32) (v8 : Int32) (v9 : Int32) (h : zH), f_L_law_l195 N (zKa Γ) L xs v2 v3 v5 v6 v7 k1 n v1 v8 v9 h = some w → Z Γ m_L_law d h0 (zoTI w) 195 [(0, .ref sb), (1, .int v1), (2, .int v2), (3, .ref v3), (5, .ref v5), (6, .ref v6), (7, .ref v7), (8, .int v8), (9, .int v9)] [] h := by
  intro n
  induction n with
  | zero => intro v1 v8 v9 h hf; cases hf
  | succ n ih =>
    intro v1 v8 v9 h hf
    rw [f_L_law_l195] at hf
    refine z_iload 8 dL_law_195 rfl ?_
    refine z_bipush (40 : Int32) dL_law_197 (by decide) ?_
    refine z_icmp_ge 1021 dL_law_199 (by decide) hf (fun hf => ?_) (fun hf => ?_)
    · exact Z.sub [0, 1, 2, 3, 6, 7] rfl (hk1 v1 v8 h hf)
    · refine z_iload_n 1 dL_law_202 rfl rfl ?_
      refine z_if_eq 1021 dL_law_203 (by decide) hf (fun hf => ?_) (fun hf => ?_)
      · exact Z.sub [0, 1, 2, 3, 6, 7] rfl (hk1 v1 v8 h hf)
      · refine z_aload 5 dL_law_206 rfl ?_
        refine z_cV_a (d' := d - 1) (As := []) (rest := []) dL_law_208 lk_L_280 rfl hf (fun w1 e1 => zc_X12_copy (by omega) e1) (by omega) rfl rfl (Nat.le_of_ble_eq_true rfl) fun y30 hf => ?_
        refine z_astore [(10, .ref y30.1), (0, .ref sb), (1, .int v1), (2, .int v2), (3, .ref v3), (5, .ref v5), (6, .ref v6), (7, .ref v7), (8, .int v8), (9, .int v9)] dL_law_211 (by decide) rfl ?_
        refine z_iconst (1 : Int32) dL_law_213 (by decide) ?_
        refine z_istore [(11, .int (1 : Int32)), (10, .ref y30.1), (0, .ref sb), (1, .int v1), (2, .int v2), (3, .ref v3), (5, .ref v5), (6, .ref v6), (7, .ref v7), (8, .int v8), (9, .int v9)] dL_law_214 (by decide) rfl ?_
        refine z_ldc (-2000000097 : Int32) dL_law_216 wk_L_52 ?_
        refine z_istore [(12, .int (-2000000097 : Int32)), (11, .int (1 : Int32)), (10, .ref y30.1), (0, .ref sb), (1, .int v1), (2, .int v2), (3, .ref v3), (5, .ref v5), (6, .ref v6), (7, .ref v7), (8, .int v8), (9, .int v9)] dL_law_218 (by decide) rfl ?_
        refine z_aload 8 dL_law_220 rfl ?_
        refine z_getA dL_law_222 zc12 (by decide) wf_L_155 hf fun x31 hf => ?_
        refine z_alen dL_law_225 hf fun x32 hf => ?_
        refine z_istore [(13, .int x32), (12, .int (-2000000097 : Int32)), (11, .int (1 : Int32)), (10, .ref y30.1), (0, .ref sb), (1, .int v1), (2, .int v2), (3, .ref v3), (5, .ref v5), (6, .ref v6), (7, .ref v7), (8, .int v8), (9, .int v9)] dL_law_226 (by decide) rfl ?_
        refine z_aload 8 dL_law_228 rfl ?_
        refine z_iload 0 dL_law_230 rfl ?_
        refine z_aload 8 dL_law_232 rfl ?_
        refine z_bipush (12 : Int32) dL_law_234 (by decide) ?_
        refine z_cV_i (d' := d - 1) (As := [.int (12 : Int32)]) (rest := [.int x32, .ref v5]) dL_law_236 lk_L_124 rfl hf (fun w1 e1 => zc_X11_below (by omega) e1) (by omega) rfl rfl (Nat.le_of_ble_eq_true rfl) fun y33 hf => ?_
        refine zjn_elim (P := fun (j252 : Int32 → Int32 → Nat → Int32 → Int32 → Nat → Int32 → Int32 → zH → Option ((Int32 ⊕ Nat) × zH)) => ∀ (v8 : Int32) (v9 : Int32) (v10 : Nat) (v12 : Int32) (v13 : Int32) (s0 : Nat) (s1 : Int32) (s2 : Int32) (h : zH), j252 v8 v9 v10 v12 v13 s0 s1 s2 h = some w → Z Γ m_L_law d h0 (zoTI w) 252 [(0, .ref sb), (2, .int v2), (3, .ref v3), (5, .ref v5), (6, .ref v6), (7, .ref v7), (8, .int v8), (9, .int v9), (10, .ref v10), (12, .int v12), (13, .int v13)] [.int s2, .int s1, .ref s0] h) hf (fun v8 v9 v10 v12 v13 s0 s1 s2 h hf => ?_) (fun j252 hj252 hf => ?_)
        · refine z_iadd dL_law_252 ?_
          refine z_cV_i (d' := d - 1) (As := [.int (s1 + s2)]) (rest := []) dL_law_253 lk_L_124 rfl hf (fun w1 e1 => zc_X11_below (by omega) e1) (by omega) rfl rfl (Nat.le_of_ble_eq_true rfl) fun y34 hf => ?_
          refine z_istore [(14, .int y34.1), (0, .ref sb), (2, .int v2), (3, .ref v3), (5, .ref v5), (6, .ref v6), (7, .ref v7), (8, .int v8), (9, .int v9), (10, .ref v10), (12, .int v12), (13, .int v13)] dL_law_256 (by decide) rfl ?_
          refine z_iload 0 dL_law_258 rfl ?_
          refine z_iload 11 dL_law_260 rfl ?_
          refine zjn_elim (P := fun (j270 : Int32 → Int32 → Nat → Int32 → Int32 → Int32 → zH → Option ((Int32 ⊕ Nat) × zH)) => ∀ (v8 : Int32) (v9 : Int32) (v10 : Nat) (v12 : Int32) (v14 : Int32) (s0 : Int32) (h : zH), j270 v8 v9 v10 v12 v14 s0 h = some w → Z Γ m_L_law d h0 (zoTI w) 270 [(0, .ref sb), (2, .int v2), (3, .ref v3), (5, .ref v5), (6, .ref v6), (7, .ref v7), (8, .int v8), (9, .int v9), (10, .ref v10), (12, .int v12), (14, .int v14)] [.int s0] h) hf (fun v8 v9 v10 v12 v14 s0 h hf => ?_) (fun j270 hj270 hf => ?_)
          · refine z_istore [(15, .int s0), (0, .ref sb), (2, .int v2), (3, .ref v3), (5, .ref v5), (6, .ref v6), (7, .ref v7), (8, .int v8), (9, .int v9), (10, .ref v10), (12, .int v12), (14, .int v14)] dL_law_270 (by decide) rfl ?_
            refine z_iload 0 dL_law_272 rfl ?_
            refine zjn_elim (P := fun (j290 : Int32 → Int32 → Nat → Int32 → Int32 → Int32 → Int32 → zH → Option ((Int32 ⊕ Nat) × zH)) => ∀ (v8 : Int32) (v9 : Int32) (v10 : Nat) (v12 : Int32) (v14 : Int32) (v15 : Int32) (s0 : Int32) (h : zH), j290 v8 v9 v10 v12 v14 v15 s0 h = some w → Z Γ m_L_law d h0 (zoTI w) 290 [(0, .ref sb), (2, .int v2), (3, .ref v3), (5, .ref v5), (6, .ref v6), (7, .ref v7), (8, .int v8), (9, .int v9), (10, .ref v10), (12, .int v12), (14, .int v14), (15, .int v15)] [.int s0] h) hf (fun v8 v9 v10 v12 v14 v15 s0 h hf => ?_) (fun j290 hj290 hf => ?_)
            · refine z_istore [(16, .int s0), (0, .ref sb), (2, .int v2), (3, .ref v3), (5, .ref v5), (6, .ref v6), (7, .ref v7), (8, .int v8), (9, .int v9), (10, .ref v10), (12, .int v12), (14, .int v14), (15, .int v15)] dL_law_290 (by decide) rfl ?_
              refine z_aload 5 dL_law_292 rfl ?_
              refine z_cV_i (d' := d - 1) (As := []) (rest := []) dL_law_294 lk_L_284 rfl hf (fun w1 e1 => zc_X12_isOver (by omega) e1) (by omega) rfl rfl (Nat.le_of_ble_eq_true rfl) fun y38 hf => ?_
              refine zjn_elim (P := fun (j316 : Int32 → Int32 → Nat → Int32 → Int32 → Int32 → Int32 → Int32 → zH → Option ((Int32 ⊕ Nat) × zH)) => ∀ (v8 : Int32) (v9 : Int32) (v10 : Nat) (v12 : Int32) (v14 : Int32) (v15 : Int32) (v16 : Int32) (s0 : Int32) (h : zH), j316 v8 v9 v10 v12 v14 v15 v16 s0 h = some w → Z Γ m_L_law d h0 (zoTI w) 316 [(0, .ref sb), (2, .int v2), (3, .ref v3), (5, .ref v5), (6, .ref v6), (7, .ref v7), (8, .int v8), (9, .int v9), (10, .ref v10), (12, .int v12), (14, .int v14), (15, .int v15), (16, .int v16)] [.int s0] h) hf (fun v8 v9 v10 v12 v14 v15 v16 s0 h hf => ?_) (fun j316 hj316 hf => ?_)
              · refine z_istore [(17, .int s0), (0, .ref sb), (2, .int v2), (3, .ref v3), (5, .ref v5), (6, .ref v6), (7, .ref v7), (8, .int v8), (9, .int v9), (10, .ref v10), (12, .int v12), (14, .int v14), (15, .int v15), (16, .int v16)] dL_law_316 (by decide) rfl ?_
                refine z_aload 4 dL_law_318 rfl ?_
                refine z_iload 0 dL_law_320 rfl ?_
                refine z_aload 4 dL_law_322 rfl ?_
                refine z_bipush (9 : Int32) dL_law_324 (by decide) ?_
                refine z_cV_i (d' := d - 1) (As := [.int (9 : Int32)]) (rest := [.int s0, .ref v5]) dL_law_326 lk_L_124 rfl hf (fun w1 e1 => zc_X11_below (by omega) e1) (by omega) rfl rfl (Nat.le_of_ble_eq_true rfl) fun y43 hf => ?_
                refine zjn_elim (P := fun (j342 : Int32 → Int32 → Nat → Int32 → Int32 → Int32 → Int32 → Int32 → Nat → Int32 → Int32 → zH → Option ((Int32 ⊕ Nat) × zH)) => ∀ (v8 : Int32) (v9 : Int32) (v10 : Nat) (v12 : Int32) (v14 : Int32) (v15 : Int32) (v16 : Int32) (v17 : Int32) (s0 : Nat) (s1 : Int32) (s2 : Int32) (h : zH), j342 v8 v9 v10 v12 v14 v15 v16 v17 s0 s1 s2 h = some w → Z Γ m_L_law d h0 (zoTI w) 342 [(0, .ref sb), (2, .int v2), (3, .ref v3), (5, .ref v5), (6, .ref v6), (7, .ref v7), (8, .int v8), (9, .int v9), (10, .ref v10), (12, .int v12), (14, .int v14), (15, .int v15), (16, .int v16), (17, .int v17)] [.int s2, .int s1, .ref s0] h) hf (fun v8 v9 v10 v12 v14 v15 v16 v17 s0 s1 s2 h hf => ?_) (fun j342 hj342 hf => ?_)
                · refine z_iadd dL_law_342 ?_
                  refine z_cV_i (d' := d - 1) (As := [.int (s1 + s2)]) (rest := []) dL_law_343 lk_L_124 rfl hf (fun w1 e1 => zc_X11_below (by omega) e1) (by omega) rfl rfl (Nat.le_of_ble_eq_true rfl) fun y44 hf => ?_
                  refine z_istore [(18, .int y44.1), (0, .ref sb), (2, .int v2), (3, .ref v3), (5, .ref v5), (6, .ref v6), (7, .ref v7), (8, .int v8), (9, .int v9), (10, .ref v10), (12, .int v12), (14, .int v14), (15, .int v15), (16, .int v16), (17, .int v17)] dL_law_346 (by decide) rfl ?_
                  refine z_aload 4 dL_law_348 rfl ?_
                  refine z_bipush (9 : Int32) dL_law_350 (by decide) ?_
                  refine z_cV_i (d' := d - 1) (As := [.int (9 : Int32)]) (rest := []) dL_law_352 lk_L_124 rfl hf (fun w1 e1 => zc_X11_below (by omega) e1) (by omega) rfl rfl (Nat.le_of_ble_eq_true rfl) fun y45 hf => ?_
                  refine zjn_elim (P := fun (j955 : Int32 → Int32 → Int32 → Nat → Int32 → zH → Option ((Int32 ⊕ Nat) × zH)) => ∀ (v1 : Int32) (v8 : Int32) (v9 : Int32) (v10 : Nat) (v11 : Int32) (h : zH), j955 v1 v8 v9 v10 v11 h = some w → Z Γ m_L_law d h0 (zoTI w) 955 [(0, .ref sb), (1, .int v1), (2, .int v2), (3, .ref v3), (5, .ref v5), (6, .ref v6), (7, .ref v7), (8, .int v8), (9, .int v9), (10, .ref v10), (11, .int v11)] [] h) hf (fun v1 v8 v9 v10 v11 h hf => ?_) (fun j955 hj955 hf => ?_)
                  · refine z_iload 10 dL_law_955 rfl ?_
                    refine zjn_elim (P := fun (j996 : Int32 → Int32 → Int32 → zH → Option ((Int32 ⊕ Nat) × zH)) => ∀ (v1 : Int32) (v8 : Int32) (v9 : Int32) (h : zH), j996 v1 v8 v9 h = some w → Z Γ m_L_law d h0 (zoTI w) 996 [(0, .ref sb), (1, .int v1), (2, .int v2), (3, .ref v3), (5, .ref v5), (6, .ref v6), (7, .ref v7), (8, .int v8), (9, .int v9)] [] h) hf (fun v1 v8 v9 h hf => ?_) (fun j996 hj996 hf => ?_)
                    · refine z_iload_n 1 dL_law_996 rfl rfl ?_
                      refine zjn_elim (P := fun (j1014 : Int32 → Int32 → Int32 → zH → Option ((Int32 ⊕ Nat) × zH)) => ∀ (v8 : Int32) (v9 : Int32) (s0 : Int32) (h : zH), j1014 v8 v9 s0 h = some w → Z Γ m_L_law d h0 (zoTI w) 1014 [(0, .ref sb), (2, .int v2), (3, .ref v3), (5, .ref v5), (6, .ref v6), (7, .ref v7), (8, .int v8), (9, .int v9)] [.int s0] h) hf (fun v8 v9 s0 h hf => ?_) (fun j1014 hj1014 hf => ?_)
                      · refine z_istore_n [(1, .int s0), (0, .ref sb), (2, .int v2), (3, .ref v3), (5, .ref v5), (6, .ref v6), (7, .ref v7), (8, .int v8), (9, .int v9)] dL_law_1014 rfl (by decide) rfl ?_
                        refine z_iinc (v9 + (1 : Int32)) 8 [(9, .int (v9 + (1 : Int32))), (1, .int s0), (0, .ref sb), (2, .int v2), (3, .ref v3), (5, .ref v5), (6, .ref v6), (7, .ref v7), (8, .int v8)] dL_law_1015 rfl rfl (by decide) rfl ?_
                        refine z_goto 195 dL_law_1018 (by decide) ?_
                        exact Z.sub [2, 1, 3, 4, 5, 6, 7, 8, 0] rfl (ih s0 v8 (v9 + (1 : Int32)) h hf)
                      · refine zjn_elim (P := fun (j1013 : Int32 → Int32 → zH → Option ((Int32 ⊕ Nat) × zH)) => ∀ (v8 : Int32) (v9 : Int32) (h : zH), j1013 v8 v9 h = some w → Z Γ m_L_law d h0 (zoTI w) 1013 [(0, .ref sb), (2, .int v2), (3, .ref v3), (5, .ref v5), (6, .ref v6), (7, .ref v7), (8, .int v8), (9, .int v9)] [] h) hf (fun v8 v9 h hf => ?_) (fun j1013 hj1013 hf => ?_)
                        · refine z_iconst (0 : Int32) dL_law_1013 (by decide) ?_
                          exact Z.sub [0, 1, 2, 3, 4, 5, 6, 7] rfl (hj1014 v8 v9 (0 : Int32) h hf)
                        · refine z_if_eq 1013 dL_law_997 (by decide) hf (fun hf => ?_) (fun hf => ?_)
                          · exact Z.sub [0, 2, 3, 4, 5, 6, 7, 8] rfl (hj1013 v8 v9 h hf)
                          · refine z_aload_n 3 dL_law_1000 rfl rfl ?_
                            refine z_aload 5 dL_law_1001 rfl ?_
                            refine z_cS_ti (d' := d - 1) (As := [.ref v3, .ref v6]) (rest := []) dL_law_1003 lk_L_257 hf (fun w1 e1 => zc_L_agrees (by omega) e1) (by omega) rfl rfl (Nat.le_of_ble_eq_true rfl) (fun y147 x148 hf => ?_) (fun y147 k149 hf => ?_)
                            · refine z_if_eq 1013 dL_law_1006 (by decide) hf (fun hf => ?_) (fun hf => ?_)
                              · exact Z.sub [0, 2, 3, 4, 5, 6, 7, 8] rfl (hj1013 v8 v9 y147.2 hf)
                              · refine z_iconst (1 : Int32) dL_law_1009 (by decide) ?_
                                refine z_goto 1014 dL_law_1010 (by decide) ?_
                                exact Z.sub [0, 2, 3, 4, 5, 6, 7, 8] rfl (hj1014 v8 v9 (1 : Int32) y147.2 hf)
                            · exact zx_out rfl (by cases hf; rfl)
                    · refine z_if_eq 996 dL_law_957 (by decide) hf (fun hf => ?_) (fun hf => ?_)
                      · exact Z.sub [0, 1, 2, 3, 4, 5, 6, 7, 8] rfl (hj996 v1 v8 v9 h hf)
                      · refine z_bipush (8 : Int32) dL_law_960 (by decide) ?_
                        refine z_istore [(19, .int (8 : Int32)), (0, .ref sb), (1, .int v1), (2, .int v2), (3, .ref v3), (5, .ref v5), (6, .ref v6), (7, .ref v7), (8, .int v8), (9, .int v9), (10, .ref v10), (11, .int v11)] dL_law_962 (by decide) rfl ?_
                        refine Z.sub [1, 2, 3, 4, 5, 6, 7, 8, 9, 10, 0] rfl (zl_L_law_964 hG hd (fun h145 hf => ?_) N (8 : Int32) h hf)
                        · refine z_aload 6 dL_law_987 rfl ?_
                          refine z_iconst (0 : Int32) dL_law_989 (by decide) ?_
                          refine z_aload 9 dL_law_990 rfl ?_
                          refine z_aastore dL_law_992 hf fun h146 hf => ?_
                          refine z_iinc (v8 + (1 : Int32)) 7 [(8, .int (v8 + (1 : Int32))), (0, .ref sb), (1, .int v1), (2, .int v2), (3, .ref v3), (5, .ref v5), (6, .ref v6), (7, .ref v7), (9, .int v9), (10, .ref v10)] dL_law_993 rfl rfl (by decide) rfl ?_
                          exact Z.sub [1, 2, 3, 4, 5, 6, 7, 0, 8] rfl (hj996 v1 (v8 + (1 : Int32)) v9 h146 hf)
                  · by_cases c0 : y45.1 = (0 : Int32)
                    · rw [if_pos c0] at hf
                      refine z_tableIn 392 dL_law_355 (by rw [c0]; decide) (by rw [c0]; decide) (by rw [c0]; rfl) (by decide) ?_
                      refine z_aload 4 dL_law_392 rfl ?_
                      refine z_bipush (9 : Int32) dL_law_394 (by decide) ?_
                      refine z_cV_i (d' := d - 1) (As := [.int (9 : Int32)]) (rest := []) dL_law_396 lk_L_124 rfl hf (fun w1 e1 => zc_X11_below (by omega) e1) (by omega) rfl rfl (Nat.le_of_ble_eq_true rfl) fun y46 hf => ?_
                      refine zjn_elim (P := fun (j407 : Int32 → Int32 → Nat → Int32 → Int32 → Int32 → Int32 → Int32 → zH → Option ((Int32 ⊕ Nat) × zH)) => ∀ (v8 : Int32) (v9 : Int32) (v10 : Nat) (v12 : Int32) (v14 : Int32) (v15 : Int32) (v16 : Int32) (s0 : Int32) (h : zH), j407 v8 v9 v10 v12 v14 v15 v16 s0 h = some w → Z Γ m_L_law d h0 (zoTI w) 407 [(0, .ref sb), (2, .int v2), (3, .ref v3), (5, .ref v5), (6, .ref v6), (7, .ref v7), (8, .int v8), (9, .int v9), (10, .ref v10), (12, .int v12), (14, .int v14), (15, .int v15), (16, .int v16)] [.int s0] h) hf (fun v8 v9 v10 v12 v14 v15 v16 s0 h hf => ?_) (fun j407 hj407 hf => ?_)
                      · refine z_istore [(19, .int s0), (0, .ref sb), (2, .int v2), (3, .ref v3), (5, .ref v5), (6, .ref v6), (7, .ref v7), (8, .int v8), (9, .int v9), (10, .ref v10), (12, .int v12), (14, .int v14), (15, .int v15), (16, .int v16)] dL_law_407 (by decide) rfl ?_
                        refine z_aload 4 dL_law_409 rfl ?_
                        refine z_aload 5 dL_law_411 rfl ?_
                        refine z_getI dL_law_413 zc12 (by decide) wf_L_145 hf fun x47 hf => ?_
                        refine z_cS_a (d' := d - 1) (As := [.ref v5, .int x47]) (rest := []) dL_law_416 lk_L_170 hf (fun w1 e1 => zc_L_random (by omega) e1) (by omega) rfl rfl (Nat.le_of_ble_eq_true rfl) fun y48 hf => ?_
                        refine z_astore [(20, .ref y48.1), (19, .int s0), (0, .ref sb), (2, .int v2), (3, .ref v3), (5, .ref v5), (6, .ref v6), (7, .ref v7), (8, .int v8), (9, .int v9), (10, .ref v10), (12, .int v12), (14, .int v14), (15, .int v15), (16, .int v16)] dL_law_419 (by decide) rfl ?_
                        refine z_iload 1 dL_law_421 rfl ?_
                        refine zjn_elim (P := fun (j441 : Int32 → Int32 → Nat → Int32 → Int32 → Int32 → Int32 → Int32 → Nat → Int32 → zH → Option ((Int32 ⊕ Nat) × zH)) => ∀ (v8 : Int32) (v9 : Int32) (v10 : Nat) (v12 : Int32) (v14 : Int32) (v15 : Int32) (v16 : Int32) (v19 : Int32) (v20 : Nat) (s0 : Int32) (h : zH), j441 v8 v9 v10 v12 v14 v15 v16 v19 v20 s0 h = some w → Z Γ m_L_law d h0 (zoTI w) 441 [(0, .ref sb), (2, .int v2), (3, .ref v3), (5, .ref v5), (6, .ref v6), (7, .ref v7), (8, .int v8), (9, .int v9), (10, .ref v10), (12, .int v12), (14, .int v14), (15, .int v15), (16, .int v16), (19, .int v19), (20, .ref v20)] [.int s0] h) hf (fun v8 v9 v10 v12 v14 v15 v16 v19 v20 s0 h hf => ?_) (fun j441 hj441 hf => ?_)
                        · refine z_istore [(21, .int s0), (0, .ref sb), (2, .int v2), (3, .ref v3), (5, .ref v5), (6, .ref v6), (7, .ref v7), (8, .int v8), (9, .int v9), (10, .ref v10), (12, .int v12), (14, .int v14), (15, .int v15), (16, .int v16), (19, .int v19), (20, .ref v20)] dL_law_441 (by decide) rfl ?_
                          refine z_iload 12 dL_law_443 rfl ?_
                          refine zjn_elim (P := fun (j465 : Int32 → Int32 → Nat → Int32 → Int32 → Int32 → Int32 → Int32 → Nat → Int32 → Int32 → zH → Option ((Int32 ⊕ Nat) × zH)) => ∀ (v8 : Int32) (v9 : Int32) (v10 : Nat) (v12 : Int32) (v14 : Int32) (v15 : Int32) (v16 : Int32) (v19 : Int32) (v20 : Nat) (v21 : Int32) (s0 : Int32) (h : zH), j465 v8 v9 v10 v12 v14 v15 v16 v19 v20 v21 s0 h = some w → Z Γ m_L_law d h0 (zoTI w) 465 [(0, .ref sb), (2, .int v2), (3, .ref v3), (5, .ref v5), (6, .ref v6), (7, .ref v7), (8, .int v8), (9, .int v9), (10, .ref v10), (12, .int v12), (14, .int v14), (15, .int v15), (16, .int v16), (19, .int v19), (20, .ref v20), (21, .int v21)] [.int s0] h) hf (fun v8 v9 v10 v12 v14 v15 v16 v19 v20 v21 s0 h hf => ?_) (fun j465 hj465 hf => ?_)
                          · refine z_istore [(11, .int s0), (0, .ref sb), (2, .int v2), (3, .ref v3), (5, .ref v5), (6, .ref v6), (7, .ref v7), (8, .int v8), (9, .int v9), (10, .ref v10), (12, .int v12), (14, .int v14), (15, .int v15), (16, .int v16), (19, .int v19), (20, .ref v20), (21, .int v21)] dL_law_465 (by decide) rfl ?_
                            refine z_iload 12 dL_law_467 rfl ?_
                            refine zjn_elim (P := fun (j498 : Int32 → Int32 → Nat → Int32 → Int32 → Int32 → Nat → Int32 → zH → Option ((Int32 ⊕ Nat) × zH)) => ∀ (v8 : Int32) (v9 : Int32) (v10 : Nat) (v11 : Int32) (v12 : Int32) (v14 : Int32) (v20 : Nat) (v21 : Int32) (h : zH), j498 v8 v9 v10 v11 v12 v14 v20 v21 h = some w → Z Γ m_L_law d h0 (zoTI w) 498 [(0, .ref sb), (2, .int v2), (3, .ref v3), (5, .ref v5), (6, .ref v6), (7, .ref v7), (8, .int v8), (9, .int v9), (10, .ref v10), (11, .int v11), (12, .int v12), (14, .int v14), (20, .ref v20), (21, .int v21)] [] h) hf (fun v8 v9 v10 v11 v12 v14 v20 v21 h hf => ?_) (fun j498 hj498 hf => ?_)
                            · refine z_iload 9 dL_law_498 rfl ?_
                              refine zjn_elim (P := fun (j535 : Int32 → Int32 → Nat → Int32 → Int32 → Int32 → Nat → Int32 → zH → Option ((Int32 ⊕ Nat) × zH)) => ∀ (v8 : Int32) (v9 : Int32) (v10 : Nat) (v11 : Int32) (v12 : Int32) (v14 : Int32) (v20 : Nat) (v21 : Int32) (h : zH), j535 v8 v9 v10 v11 v12 v14 v20 v21 h = some w → Z Γ m_L_law d h0 (zoTI w) 535 [(0, .ref sb), (2, .int v2), (3, .ref v3), (5, .ref v5), (6, .ref v6), (7, .ref v7), (8, .int v8), (9, .int v9), (10, .ref v10), (11, .int v11), (12, .int v12), (14, .int v14), (20, .ref v20), (21, .int v21)] [] h) hf (fun v8 v9 v10 v11 v12 v14 v20 v21 h hf => ?_) (fun j535 hj535 hf => ?_)
                              · refine z_aload_n 2 dL_law_535 rfl rfl ?_
                                refine z_iload 11 dL_law_536 rfl ?_
                                refine z_aload 12 dL_law_538 rfl ?_
                                refine z_cS_i (d' := d - 1) (As := [.ref v20]) (rest := [.int v14, .ref v3]) dL_law_540 lk_L_185 hf (fun w1 e1 => zc_L_number (by omega) e1) (by omega) rfl rfl (Nat.le_of_ble_eq_true rfl) fun y57 hf => ?_
                                refine z_iload 13 dL_law_543 rfl ?_
                                refine z_cW_i (d' := d - 1) (As := [.ref v3, .int v14, .int y57.1, .int v21]) (rest := []) dL_law_545 lk_L_272 hf (fun w1 e1 => zc_L_give (by omega) e1) (by omega) rfl rfl (Nat.le_of_ble_eq_true rfl) fun y58 hf => ?_
                                refine z_iload 10 dL_law_548 rfl ?_
                                refine zjn_elim (P := fun (j558 : Int32 → Int32 → Nat → Int32 → Int32 → zH → Option ((Int32 ⊕ Nat) × zH)) => ∀ (v8 : Int32) (v9 : Int32) (v10 : Nat) (v11 : Int32) (s0 : Int32) (h : zH), j558 v8 v9 v10 v11 s0 h = some w → Z Γ m_L_law d h0 (zoTI w) 558 [(0, .ref sb), (2, .int v2), (3, .ref v3), (5, .ref v5), (6, .ref v6), (7, .ref v7), (8, .int v8), (9, .int v9), (10, .ref v10), (11, .int v11)] [.int s0] h) hf (fun v8 v9 v10 v11 s0 h hf => ?_) (fun j558 hj558 hf => ?_)
                                · refine z_istore_n [(1, .int s0), (0, .ref sb), (2, .int v2), (3, .ref v3), (5, .ref v5), (6, .ref v6), (7, .ref v7), (8, .int v8), (9, .int v9), (10, .ref v10), (11, .int v11)] dL_law_558 rfl (by decide) rfl ?_
                                  refine z_goto 955 dL_law_559 (by decide) ?_
                                  exact Z.sub [1, 0, 2, 3, 4, 5, 6, 7, 8, 9, 10] rfl (hj955 s0 v8 v9 v10 v11 h hf)
                                · refine z_icmp_ne 557 dL_law_550 (by decide) hf (fun hf => ?_) (fun hf => ?_)
                                  · refine z_iconst (1 : Int32) dL_law_553 (by decide) ?_
                                    refine z_goto 558 dL_law_554 (by decide) ?_
                                    exact Z.sub [0, 1, 2, 3, 4, 5, 6, 7, 8, 9] rfl (hj558 v8 v9 v10 v11 (1 : Int32) y58.2 hf)
                                  · refine z_iconst (0 : Int32) dL_law_557 (by decide) ?_
                                    exact Z.sub [0, 1, 2, 3, 4, 5, 6, 7, 8, 9] rfl (hj558 v8 v9 v10 v11 (0 : Int32) y58.2 hf)
                              · refine z_if_eq 535 dL_law_500 (by decide) hf (fun hf => ?_) (fun hf => ?_)
                                · exact Z.sub [0, 1, 2, 3, 4, 5, 6, 7, 8, 9, 10, 11, 12, 13] rfl (hj535 v8 v9 v10 v11 v12 v14 v20 v21 h hf)
                                · refine z_aload 4 dL_law_503 rfl ?_
                                  refine z_getA dL_law_505 zc12 (by decide) wf_L_164 hf fun x50 hf => ?_
                                  refine z_iload 11 dL_law_508 rfl ?_
                                  refine z_aload 4 dL_law_510 rfl ?_
                                  refine z_getA dL_law_512 zc12 (by decide) wf_L_164 hf fun x51 hf => ?_
                                  refine z_iload 11 dL_law_515 rfl ?_
                                  refine z_aaload dL_law_517 hf fun x52 hf => ?_
                                  refine z_nwO dL_law_518 zc9 wc_L_129 wn_X9 wi_X9 rfl zd9 hf fun y53 hf => ?_
                                  refine z_dup dL_law_521 rfl ?_
                                  refine z_iload 11 dL_law_522 rfl ?_
                                  refine z_aload 12 dL_law_524 rfl ?_
                                  refine z_iload 13 dL_law_526 rfl ?_
                                  refine z_cI_v (d' := d - 1) (As := [.int v14, .ref v20, .int v21]) (rest := [.ref y53.1, .ref x52, .int v14, .ref x50]) dL_law_528 lk_L_174 hf (fun w1 e1 => zc_X9_init (by omega) e1) (by omega) rfl rfl (Nat.le_of_ble_eq_true rfl) fun y54 hf => ?_
                                  refine z_cS_a (d' := d - 1) (As := [.ref x52, .ref y53.1]) (rest := [.int v14, .ref x50]) dL_law_531 lk_L_177 hf (fun w1 e1 => zc_L_with (by omega) e1) (by omega) rfl rfl (Nat.le_of_ble_eq_true rfl) fun y55 hf => ?_
                                  refine z_aastR dL_law_534 wo_6 hf fun h56 hf => ?_
                                  exact Z.sub [0, 1, 2, 3, 4, 5, 6, 7, 8, 9, 10, 11, 12, 13] rfl (hj535 v8 v9 v10 v11 v12 v14 v20 v21 h56 hf)
                            · refine z_if_eq 498 dL_law_469 (by decide) hf (fun hf => ?_) (fun hf => ?_)
                              · exact Z.sub [1, 2, 3, 4, 5, 6, 7, 8, 9, 0, 10, 11, 15, 16] rfl (hj498 v8 v9 v10 s0 v12 v14 v20 v21 h hf)
                              · refine z_iload 14 dL_law_472 rfl ?_
                                refine zjn_elim (P := fun (j496 : Int32 → Int32 → Nat → Int32 → Int32 → Nat → Int32 → Int32 → zH → Option ((Int32 ⊕ Nat) × zH)) => ∀ (v8 : Int32) (v9 : Int32) (v10 : Nat) (v11 : Int32) (v14 : Int32) (v20 : Nat) (v21 : Int32) (s0 : Int32) (h : zH), j496 v8 v9 v10 v11 v14 v20 v21 s0 h = some w → Z Γ m_L_law d h0 (zoTI w) 496 [(0, .ref sb), (2, .int v2), (3, .ref v3), (5, .ref v5), (6, .ref v6), (7, .ref v7), (8, .int v8), (9, .int v9), (10, .ref v10), (11, .int v11), (14, .int v14), (20, .ref v20), (21, .int v21)] [.int s0] h) hf (fun v8 v9 v10 v11 v14 v20 v21 s0 h hf => ?_) (fun j496 hj496 hf => ?_)
                                · refine z_istore [(12, .int s0), (0, .ref sb), (2, .int v2), (3, .ref v3), (5, .ref v5), (6, .ref v6), (7, .ref v7), (8, .int v8), (9, .int v9), (10, .ref v10), (11, .int v11), (14, .int v14), (20, .ref v20), (21, .int v21)] dL_law_496 (by decide) rfl ?_
                                  exact Z.sub [1, 2, 3, 4, 5, 6, 7, 8, 9, 10, 0, 11, 12, 13] rfl (hj498 v8 v9 v10 v11 s0 v14 v20 v21 h hf)
                                · refine z_if_ne 482 dL_law_474 (by decide) hf (fun hf => ?_) (fun hf => ?_)
                                  · refine z_ldc (-2000000098 : Int32) dL_law_477 wk_L_42 ?_
                                    refine z_goto 496 dL_law_479 (by decide) ?_
                                    exact Z.sub [1, 2, 3, 4, 5, 6, 7, 8, 9, 0, 11, 15, 16] rfl (hj496 v8 v9 v10 s0 v14 v20 v21 (-2000000098 : Int32) h hf)
                                  · refine z_iload 0 dL_law_482 rfl ?_
                                    refine z_if_eq 494 dL_law_484 (by decide) hf (fun hf => ?_) (fun hf => ?_)
                                    · refine z_ldc (-2000000099 : Int32) dL_law_494 wk_L_99 ?_
                                      exact Z.sub [1, 2, 3, 4, 5, 6, 7, 8, 9, 0, 11, 15, 16] rfl (hj496 v8 v9 v10 s0 v14 v20 v21 (-2000000099 : Int32) h hf)
                                    · refine z_iload 13 dL_law_487 rfl ?_
                                      refine z_iconst (1 : Int32) dL_law_489 (by decide) ?_
                                      refine z_iadd dL_law_490 ?_
                                      refine z_goto 496 dL_law_491 (by decide) ?_
                                      exact Z.sub [1, 2, 3, 4, 5, 6, 7, 8, 9, 0, 11, 15, 16] rfl (hj496 v8 v9 v10 s0 v14 v20 v21 (v16 + (1 : Int32)) h hf)
                          · refine zjn_elim (P := fun (j464 : Int32 → Int32 → Nat → Int32 → Int32 → Int32 → Int32 → Int32 → Nat → Int32 → zH → Option ((Int32 ⊕ Nat) × zH)) => ∀ (v8 : Int32) (v9 : Int32) (v10 : Nat) (v12 : Int32) (v14 : Int32) (v15 : Int32) (v16 : Int32) (v19 : Int32) (v20 : Nat) (v21 : Int32) (h : zH), j464 v8 v9 v10 v12 v14 v15 v16 v19 v20 v21 h = some w → Z Γ m_L_law d h0 (zoTI w) 464 [(0, .ref sb), (2, .int v2), (3, .ref v3), (5, .ref v5), (6, .ref v6), (7, .ref v7), (8, .int v8), (9, .int v9), (10, .ref v10), (12, .int v12), (14, .int v14), (15, .int v15), (16, .int v16), (19, .int v19), (20, .ref v20), (21, .int v21)] [] h) hf (fun v8 v9 v10 v12 v14 v15 v16 v19 v20 v21 h hf => ?_) (fun j464 hj464 hf => ?_)
                            · refine z_iconst (0 : Int32) dL_law_464 (by decide) ?_
                              exact Z.sub [0, 1, 2, 3, 4, 5, 6, 7, 8, 9, 10, 11, 12, 13, 14, 15] rfl (hj465 v8 v9 v10 v12 v14 v15 v16 v19 v20 v21 (0 : Int32) h hf)
                            · refine z_if_eq 464 dL_law_445 (by decide) hf (fun hf => ?_) (fun hf => ?_)
                              · exact Z.sub [1, 2, 3, 4, 5, 6, 7, 8, 9, 10, 11, 12, 13, 14, 15, 0] rfl (hj464 v8 v9 v10 v12 v14 v15 v16 v19 v20 s0 h hf)
                              · refine z_iload 14 dL_law_448 rfl ?_
                                refine z_if_eq 464 dL_law_450 (by decide) hf (fun hf => ?_) (fun hf => ?_)
                                · exact Z.sub [1, 2, 3, 4, 5, 6, 7, 8, 9, 10, 11, 12, 13, 14, 15, 0] rfl (hj464 v8 v9 v10 v12 v14 v15 v16 v19 v20 s0 h hf)
                                · refine z_iload 13 dL_law_453 rfl ?_
                                  refine z_bipush (8 : Int32) dL_law_455 (by decide) ?_
                                  refine z_icmp_ge 464 dL_law_457 (by decide) hf (fun hf => ?_) (fun hf => ?_)
                                  · exact Z.sub [1, 2, 3, 4, 5, 6, 7, 8, 9, 10, 11, 12, 13, 14, 15, 0] rfl (hj464 v8 v9 v10 v12 v14 v15 v16 v19 v20 s0 h hf)
                                  · refine z_iconst (1 : Int32) dL_law_460 (by decide) ?_
                                    refine z_goto 465 dL_law_461 (by decide) ?_
                                    exact Z.sub [1, 2, 3, 4, 5, 6, 7, 8, 9, 10, 11, 12, 13, 14, 15, 0] rfl (hj465 v8 v9 v10 v12 v14 v15 v16 v19 v20 s0 (1 : Int32) h hf)
                        · refine z_if_eq 438 dL_law_423 (by decide) hf (fun hf => ?_) (fun hf => ?_)
                          · refine z_sipush (1000 : Int32) dL_law_438 (by decide) ?_
                            exact Z.sub [2, 3, 4, 5, 6, 7, 8, 9, 10, 11, 12, 13, 14, 1, 0] rfl (hj441 v8 v9 v10 v12 v14 v15 v16 s0 y48.1 (1000 : Int32) y48.2 hf)
                          · refine z_iconst (1 : Int32) dL_law_426 (by decide) ?_
                            refine z_aload 5 dL_law_427 rfl ?_
                            refine z_bipush (20 : Int32) dL_law_429 (by decide) ?_
                            refine z_cV_i (d' := d - 1) (As := [.int (20 : Int32)]) (rest := [.int (1 : Int32)]) dL_law_431 lk_L_124 rfl hf (fun w1 e1 => zc_X11_below (by omega) e1) (by omega) rfl rfl (Nat.le_of_ble_eq_true rfl) fun y49 hf => ?_
                            refine z_iadd dL_law_434 ?_
                            refine z_goto 441 dL_law_435 (by decide) ?_
                            exact Z.sub [2, 3, 4, 5, 6, 7, 8, 9, 10, 11, 12, 13, 14, 1, 0] rfl (hj441 v8 v9 v10 v12 v14 v15 v16 s0 y48.1 ((1 : Int32) + y49.1) y49.2 hf)
                      · refine z_if_le 406 dL_law_399 (by decide) hf (fun hf => ?_) (fun hf => ?_)
                        · refine z_iconst (0 : Int32) dL_law_406 (by decide) ?_
                          exact Z.sub [1, 2, 3, 4, 5, 6, 7, 8, 9, 10, 11, 12, 13] rfl (hj407 v8 v9 v10 v12 v14 v15 v16 (0 : Int32) y46.2 hf)
                        · refine z_iconst (1 : Int32) dL_law_402 (by decide) ?_
                          refine z_goto 407 dL_law_403 (by decide) ?_
                          exact Z.sub [1, 2, 3, 4, 5, 6, 7, 8, 9, 10, 11, 12, 13] rfl (hj407 v8 v9 v10 v12 v14 v15 v16 (1 : Int32) y46.2 hf)
                    · rw [if_neg c0] at hf
                      by_cases c1 : y45.1 = (1 : Int32)
                      · rw [if_pos c1] at hf
                        refine z_tableIn 562 dL_law_355 (by rw [c1]; decide) (by rw [c1]; decide) (by rw [c1]; rfl) (by decide) ?_
                        refine z_aload 4 dL_law_562 rfl ?_
                        refine z_iload 13 dL_law_564 rfl ?_
                        refine z_iconst (1 : Int32) dL_law_566 (by decide) ?_
                        refine z_iadd dL_law_567 ?_
                        refine z_cV_i (d' := d - 1) (As := [.int (v16 + (1 : Int32))]) (rest := []) dL_law_568 lk_L_124 rfl hf (fun w1 e1 => zc_X11_below (by omega) e1) (by omega) rfl rfl (Nat.le_of_ble_eq_true rfl) fun y59 hf => ?_
                        refine z_istore [(22, .int y59.1), (18, .int y44.1), (0, .ref sb), (2, .int v2), (3, .ref v3), (5, .ref v5), (6, .ref v6), (7, .ref v7), (8, .int v8), (9, .int v9), (10, .ref v10), (12, .int v12), (14, .int v14), (15, .int v15), (16, .int v16), (17, .int v17)] dL_law_571 (by decide) rfl ?_
                        refine z_iload 13 dL_law_573 rfl ?_
                        refine zjn_elim (P := fun (j590 : Int32 → Int32 → Nat → Int32 → Int32 → Int32 → Int32 → Int32 → zH → Option ((Int32 ⊕ Nat) × zH)) => ∀ (v8 : Int32) (v9 : Int32) (v10 : Nat) (v12 : Int32) (v14 : Int32) (v15 : Int32) (v22 : Int32) (s0 : Int32) (h : zH), j590 v8 v9 v10 v12 v14 v15 v22 s0 h = some w → Z Γ m_L_law d h0 (zoTI w) 590 [(0, .ref sb), (2, .int v2), (3, .ref v3), (5, .ref v5), (6, .ref v6), (7, .ref v7), (8, .int v8), (9, .int v9), (10, .ref v10), (12, .int v12), (14, .int v14), (15, .int v15), (22, .int v22)] [.int s0] h) hf (fun v8 v9 v10 v12 v14 v15 v22 s0 h hf => ?_) (fun j590 hj590 hf => ?_)
                        · refine z_istore [(11, .int s0), (0, .ref sb), (2, .int v2), (3, .ref v3), (5, .ref v5), (6, .ref v6), (7, .ref v7), (8, .int v8), (9, .int v9), (10, .ref v10), (12, .int v12), (14, .int v14), (15, .int v15), (22, .int v22)] dL_law_590 (by decide) rfl ?_
                          refine z_iload 12 dL_law_592 rfl ?_
                          refine zjn_elim (P := fun (j626 : Int32 → Int32 → Nat → Int32 → Int32 → Int32 → Int32 → zH → Option ((Int32 ⊕ Nat) × zH)) => ∀ (v8 : Int32) (v9 : Int32) (v10 : Nat) (v11 : Int32) (v12 : Int32) (v14 : Int32) (v22 : Int32) (h : zH), j626 v8 v9 v10 v11 v12 v14 v22 h = some w → Z Γ m_L_law d h0 (zoTI w) 626 [(0, .ref sb), (2, .int v2), (3, .ref v3), (5, .ref v5), (6, .ref v6), (7, .ref v7), (8, .int v8), (9, .int v9), (10, .ref v10), (11, .int v11), (12, .int v12), (14, .int v14), (22, .int v22)] [] h) hf (fun v8 v9 v10 v11 v12 v14 v22 h hf => ?_) (fun j626 hj626 hf => ?_)
                          · refine z_iload 9 dL_law_626 rfl ?_
                            refine zjn_elim (P := fun (j652 : Int32 → Int32 → Nat → Int32 → Int32 → Int32 → Int32 → zH → Option ((Int32 ⊕ Nat) × zH)) => ∀ (v8 : Int32) (v9 : Int32) (v10 : Nat) (v11 : Int32) (v12 : Int32) (v14 : Int32) (v22 : Int32) (h : zH), j652 v8 v9 v10 v11 v12 v14 v22 h = some w → Z Γ m_L_law d h0 (zoTI w) 652 [(0, .ref sb), (2, .int v2), (3, .ref v3), (5, .ref v5), (6, .ref v6), (7, .ref v7), (8, .int v8), (9, .int v9), (10, .ref v10), (11, .int v11), (12, .int v12), (14, .int v14), (22, .int v22)] [] h) hf (fun v8 v9 v10 v11 v12 v14 v22 h hf => ?_) (fun j652 hj652 hf => ?_)
                            · refine z_aload_n 2 dL_law_652 rfl rfl ?_
                              refine z_iload 11 dL_law_653 rfl ?_
                              refine z_iload 12 dL_law_655 rfl ?_
                              refine z_cW_i (d' := d - 1) (As := [.ref v3, .int v14, .int v22]) (rest := []) dL_law_657 lk_L_295 hf (fun w1 e1 => zc_L_discard (by omega) e1) (by omega) rfl rfl (Nat.le_of_ble_eq_true rfl) fun y70 hf => ?_
                              refine z_iload 10 dL_law_660 rfl ?_
                              refine zjn_elim (P := fun (j670 : Int32 → Int32 → Nat → Int32 → Int32 → zH → Option ((Int32 ⊕ Nat) × zH)) => ∀ (v8 : Int32) (v9 : Int32) (v10 : Nat) (v11 : Int32) (s0 : Int32) (h : zH), j670 v8 v9 v10 v11 s0 h = some w → Z Γ m_L_law d h0 (zoTI w) 670 [(0, .ref sb), (2, .int v2), (3, .ref v3), (5, .ref v5), (6, .ref v6), (7, .ref v7), (8, .int v8), (9, .int v9), (10, .ref v10), (11, .int v11)] [.int s0] h) hf (fun v8 v9 v10 v11 s0 h hf => ?_) (fun j670 hj670 hf => ?_)
                              · refine z_istore_n [(1, .int s0), (0, .ref sb), (2, .int v2), (3, .ref v3), (5, .ref v5), (6, .ref v6), (7, .ref v7), (8, .int v8), (9, .int v9), (10, .ref v10), (11, .int v11)] dL_law_670 rfl (by decide) rfl ?_
                                refine z_goto 955 dL_law_671 (by decide) ?_
                                exact Z.sub [1, 0, 2, 3, 4, 5, 6, 7, 8, 9, 10] rfl (hj955 s0 v8 v9 v10 v11 h hf)
                              · refine z_icmp_ne 669 dL_law_662 (by decide) hf (fun hf => ?_) (fun hf => ?_)
                                · refine z_iconst (1 : Int32) dL_law_665 (by decide) ?_
                                  refine z_goto 670 dL_law_666 (by decide) ?_
                                  exact Z.sub [0, 1, 2, 3, 4, 5, 6, 7, 8, 9] rfl (hj670 v8 v9 v10 v11 (1 : Int32) y70.2 hf)
                                · refine z_iconst (0 : Int32) dL_law_669 (by decide) ?_
                                  exact Z.sub [0, 1, 2, 3, 4, 5, 6, 7, 8, 9] rfl (hj670 v8 v9 v10 v11 (0 : Int32) y70.2 hf)
                            · refine z_if_eq 652 dL_law_628 (by decide) hf (fun hf => ?_) (fun hf => ?_)
                              · exact Z.sub [0, 1, 2, 3, 4, 5, 6, 7, 8, 9, 10, 11, 12] rfl (hj652 v8 v9 v10 v11 v12 v14 v22 h hf)
                              · refine z_aload 4 dL_law_631 rfl ?_
                                refine z_getA dL_law_633 zc12 (by decide) wf_L_164 hf fun x65 hf => ?_
                                refine z_iload 11 dL_law_636 rfl ?_
                                refine z_aload 4 dL_law_638 rfl ?_
                                refine z_getA dL_law_640 zc12 (by decide) wf_L_164 hf fun x66 hf => ?_
                                refine z_iload 11 dL_law_643 rfl ?_
                                refine z_aaload dL_law_645 hf fun x67 hf => ?_
                                refine z_iload 12 dL_law_646 rfl ?_
                                refine z_cS_a (d' := d - 1) (As := [.ref x67, .int v22]) (rest := [.int v14, .ref x65]) dL_law_648 lk_L_291 hf (fun w1 e1 => zc_L_without (by omega) e1) (by omega) rfl rfl (Nat.le_of_ble_eq_true rfl) fun y68 hf => ?_
                                refine z_aastR dL_law_651 wo_6 hf fun h69 hf => ?_
                                exact Z.sub [0, 1, 2, 3, 4, 5, 6, 7, 8, 9, 10, 11, 12] rfl (hj652 v8 v9 v10 v11 v12 v14 v22 h69 hf)
                          · refine z_if_eq 626 dL_law_594 (by decide) hf (fun hf => ?_) (fun hf => ?_)
                            · exact Z.sub [1, 2, 3, 4, 5, 6, 7, 8, 9, 0, 10, 11, 13] rfl (hj626 v8 v9 v10 s0 v12 v14 v22 h hf)
                            · refine z_iload 0 dL_law_597 rfl ?_
                              refine zjn_elim (P := fun (j624 : Int32 → Int32 → Nat → Int32 → Int32 → Int32 → Int32 → zH → Option ((Int32 ⊕ Nat) × zH)) => ∀ (v8 : Int32) (v9 : Int32) (v10 : Nat) (v11 : Int32) (v14 : Int32) (v22 : Int32) (s0 : Int32) (h : zH), j624 v8 v9 v10 v11 v14 v22 s0 h = some w → Z Γ m_L_law d h0 (zoTI w) 624 [(0, .ref sb), (2, .int v2), (3, .ref v3), (5, .ref v5), (6, .ref v6), (7, .ref v7), (8, .int v8), (9, .int v9), (10, .ref v10), (11, .int v11), (14, .int v14), (22, .int v22)] [.int s0] h) hf (fun v8 v9 v10 v11 v14 v22 s0 h hf => ?_) (fun j624 hj624 hf => ?_)
                              · refine z_istore [(12, .int s0), (0, .ref sb), (2, .int v2), (3, .ref v3), (5, .ref v5), (6, .ref v6), (7, .ref v7), (8, .int v8), (9, .int v9), (10, .ref v10), (11, .int v11), (14, .int v14), (22, .int v22)] dL_law_624 (by decide) rfl ?_
                                exact Z.sub [1, 2, 3, 4, 5, 6, 7, 8, 9, 10, 0, 11, 12] rfl (hj626 v8 v9 v10 v11 s0 v14 v22 h hf)
                              · refine z_if_eq 622 dL_law_599 (by decide) hf (fun hf => ?_) (fun hf => ?_)
                                · refine z_ldc (-2000000100 : Int32) dL_law_622 wk_L_59 ?_
                                  exact Z.sub [1, 2, 3, 4, 5, 6, 7, 8, 9, 0, 11, 13] rfl (hj624 v8 v9 v10 s0 v14 v22 (-2000000100 : Int32) h hf)
                                · refine z_aload 5 dL_law_602 rfl ?_
                                  refine z_getA dL_law_604 zc12 (by decide) wf_L_164 hf fun x60 hf => ?_
                                  refine z_iload 11 dL_law_607 rfl ?_
                                  refine z_aaload dL_law_609 hf fun x61 hf => ?_
                                  refine z_iload 13 dL_law_610 rfl ?_
                                  refine z_aaload dL_law_612 hf fun x62 hf => ?_
                                  refine z_getA dL_law_613 zc9 (by decide) wf_L_182 hf fun x63 hf => ?_
                                  refine z_cS_i (d' := d - 1) (As := [.ref x63]) (rest := []) dL_law_616 lk_L_185 hf (fun w1 e1 => zc_L_number (by omega) e1) (by omega) rfl rfl (Nat.le_of_ble_eq_true rfl) fun y64 hf => ?_
                                  refine z_goto 624 dL_law_619 (by decide) ?_
                                  exact Z.sub [1, 2, 3, 4, 5, 6, 7, 8, 9, 0, 11, 13] rfl (hj624 v8 v9 v10 s0 v14 v22 y64.1 y64.2 hf)
                        · refine zjn_elim (P := fun (j589 : Int32 → Int32 → Nat → Int32 → Int32 → Int32 → Int32 → zH → Option ((Int32 ⊕ Nat) × zH)) => ∀ (v8 : Int32) (v9 : Int32) (v10 : Nat) (v12 : Int32) (v14 : Int32) (v15 : Int32) (v22 : Int32) (h : zH), j589 v8 v9 v10 v12 v14 v15 v22 h = some w → Z Γ m_L_law d h0 (zoTI w) 589 [(0, .ref sb), (2, .int v2), (3, .ref v3), (5, .ref v5), (6, .ref v6), (7, .ref v7), (8, .int v8), (9, .int v9), (10, .ref v10), (12, .int v12), (14, .int v14), (15, .int v15), (22, .int v22)] [] h) hf (fun v8 v9 v10 v12 v14 v15 v22 h hf => ?_) (fun j589 hj589 hf => ?_)
                          · refine z_iconst (0 : Int32) dL_law_589 (by decide) ?_
                            exact Z.sub [0, 1, 2, 3, 4, 5, 6, 7, 8, 9, 10, 11, 12] rfl (hj590 v8 v9 v10 v12 v14 v15 v22 (0 : Int32) h hf)
                          · refine z_if_eq 589 dL_law_575 (by decide) hf (fun hf => ?_) (fun hf => ?_)
                            · exact Z.sub [2, 3, 4, 5, 6, 7, 8, 9, 10, 11, 12, 13, 0] rfl (hj589 v8 v9 v10 v12 v14 v15 y59.1 y59.2 hf)
                            · refine z_iload 0 dL_law_578 rfl ?_
                              refine z_iload 14 dL_law_580 rfl ?_
                              refine z_icmp_ge 589 dL_law_582 (by decide) hf (fun hf => ?_) (fun hf => ?_)
                              · exact Z.sub [2, 3, 4, 5, 6, 7, 8, 9, 10, 11, 12, 13, 0] rfl (hj589 v8 v9 v10 v12 v14 v15 y59.1 y59.2 hf)
                              · refine z_iconst (1 : Int32) dL_law_585 (by decide) ?_
                                refine z_goto 590 dL_law_586 (by decide) ?_
                                exact Z.sub [2, 3, 4, 5, 6, 7, 8, 9, 10, 11, 12, 13, 0] rfl (hj590 v8 v9 v10 v12 v14 v15 y59.1 (1 : Int32) y59.2 hf)
                      · rw [if_neg c1] at hf
                        by_cases c2 : y45.1 = (2 : Int32)
                        · rw [if_pos c2] at hf
                          refine z_tableIn 674 dL_law_355 (by rw [c2]; decide) (by rw [c2]; decide) (by rw [c2]; rfl) (by decide) ?_
                          refine z_aload 5 dL_law_674 rfl ?_
                          refine z_cV_i (d' := d - 1) (As := []) (rest := []) dL_law_676 lk_L_284 rfl hf (fun w1 e1 => zc_X12_isOver (by omega) e1) (by omega) rfl rfl (Nat.le_of_ble_eq_true rfl) fun y71 hf => ?_
                          refine zjn_elim (P := fun (j687 : Int32 → Int32 → Nat → Int32 → zH → Option ((Int32 ⊕ Nat) × zH)) => ∀ (v8 : Int32) (v9 : Int32) (v10 : Nat) (s0 : Int32) (h : zH), j687 v8 v9 v10 s0 h = some w → Z Γ m_L_law d h0 (zoTI w) 687 [(0, .ref sb), (2, .int v2), (3, .ref v3), (5, .ref v5), (6, .ref v6), (7, .ref v7), (8, .int v8), (9, .int v9), (10, .ref v10)] [.int s0] h) hf (fun v8 v9 v10 s0 h hf => ?_) (fun j687 hj687 hf => ?_)
                          · refine z_istore [(11, .int s0), (0, .ref sb), (2, .int v2), (3, .ref v3), (5, .ref v5), (6, .ref v6), (7, .ref v7), (8, .int v8), (9, .int v9), (10, .ref v10)] dL_law_687 (by decide) rfl ?_
                            refine z_aload_n 3 dL_law_689 rfl rfl ?_
                            refine z_cW_i (d' := d - 1) (As := [.ref v3]) (rest := []) dL_law_690 lk_L_269 hf (fun w1 e1 => zc_L_pass (by omega) e1) (by omega) rfl rfl (Nat.le_of_ble_eq_true rfl) fun y72 hf => ?_
                            refine z_iload 0 dL_law_693 rfl ?_
                            refine zjn_elim (P := fun (j708 : Int32 → Int32 → Nat → Int32 → Int32 → Int32 → zH → Option ((Int32 ⊕ Nat) × zH)) => ∀ (v8 : Int32) (v9 : Int32) (v10 : Nat) (v11 : Int32) (s0 : Int32) (s1 : Int32) (h : zH), j708 v8 v9 v10 v11 s0 s1 h = some w → Z Γ m_L_law d h0 (zoTI w) 708 [(0, .ref sb), (2, .int v2), (3, .ref v3), (5, .ref v5), (6, .ref v6), (7, .ref v7), (8, .int v8), (9, .int v9), (10, .ref v10), (11, .int v11)] [.int s1, .int s0] h) hf (fun v8 v9 v10 v11 s0 s1 h hf => ?_) (fun j708 hj708 hf => ?_)
                            · refine zjn_elim (P := fun (j716 : Int32 → Int32 → Nat → Int32 → Int32 → zH → Option ((Int32 ⊕ Nat) × zH)) => ∀ (v8 : Int32) (v9 : Int32) (v10 : Nat) (v11 : Int32) (s0 : Int32) (h : zH), j716 v8 v9 v10 v11 s0 h = some w → Z Γ m_L_law d h0 (zoTI w) 716 [(0, .ref sb), (2, .int v2), (3, .ref v3), (5, .ref v5), (6, .ref v6), (7, .ref v7), (8, .int v8), (9, .int v9), (10, .ref v10), (11, .int v11)] [.int s0] h) hf (fun v8 v9 v10 v11 s0 h hf => ?_) (fun j716 hj716 hf => ?_)
                              · refine z_istore_n [(1, .int s0), (0, .ref sb), (2, .int v2), (3, .ref v3), (5, .ref v5), (6, .ref v6), (7, .ref v7), (8, .int v8), (9, .int v9), (10, .ref v10), (11, .int v11)] dL_law_716 rfl (by decide) rfl ?_
                                refine z_goto 955 dL_law_717 (by decide) ?_
                                exact Z.sub [1, 0, 2, 3, 4, 5, 6, 7, 8, 9, 10] rfl (hj955 s0 v8 v9 v10 v11 h hf)
                              · refine z_icmp_ne 715 dL_law_708 (by decide) hf (fun hf => ?_) (fun hf => ?_)
                                · refine z_iconst (1 : Int32) dL_law_711 (by decide) ?_
                                  refine z_goto 716 dL_law_712 (by decide) ?_
                                  exact Z.sub [0, 1, 2, 3, 4, 5, 6, 7, 8, 9] rfl (hj716 v8 v9 v10 v11 (1 : Int32) h hf)
                                · refine z_iconst (0 : Int32) dL_law_715 (by decide) ?_
                                  exact Z.sub [0, 1, 2, 3, 4, 5, 6, 7, 8, 9] rfl (hj716 v8 v9 v10 v11 (0 : Int32) h hf)
                            · refine z_if_eq 706 dL_law_695 (by decide) hf (fun hf => ?_) (fun hf => ?_)
                              · refine z_ldc (-2000000099 : Int32) dL_law_706 wk_L_99 ?_
                                exact Z.sub [1, 2, 3, 4, 5, 6, 7, 8, 9, 0] rfl (hj708 v8 v9 v10 s0 y72.1 (-2000000099 : Int32) y72.2 hf)
                              · refine z_aload 5 dL_law_698 rfl ?_
                                refine z_cV_i (d' := d - 1) (As := []) (rest := [.int y72.1]) dL_law_700 lk_L_297 rfl hf (fun w1 e1 => zc_X12_pass (by omega) e1) (by omega) rfl rfl (Nat.le_of_ble_eq_true rfl) fun y73 hf => ?_
                                refine z_goto 708 dL_law_703 (by decide) ?_
                                exact Z.sub [1, 2, 3, 4, 5, 6, 7, 8, 9, 0] rfl (hj708 v8 v9 v10 s0 y72.1 y73.1 y73.2 hf)
                          · refine z_if_ne 686 dL_law_679 (by decide) hf (fun hf => ?_) (fun hf => ?_)
                            · refine z_iconst (1 : Int32) dL_law_682 (by decide) ?_
                              refine z_goto 687 dL_law_683 (by decide) ?_
                              exact Z.sub [1, 2, 3, 4, 5, 6, 7, 8, 9] rfl (hj687 v8 v9 v10 (1 : Int32) y71.2 hf)
                            · refine z_iconst (0 : Int32) dL_law_686 (by decide) ?_
                              exact Z.sub [1, 2, 3, 4, 5, 6, 7, 8, 9] rfl (hj687 v8 v9 v10 (0 : Int32) y71.2 hf)
                        · rw [if_neg c2] at hf
                          by_cases c3 : y45.1 = (3 : Int32)
                          · rw [if_pos c3] at hf
                            refine z_tableIn 720 dL_law_355 (by rw [c3]; decide) (by rw [c3]; decide) (by rw [c3]; rfl) (by decide) ?_
                            refine z_aload 4 dL_law_720 rfl ?_
                            refine z_aload 5 dL_law_722 rfl ?_
                            refine z_getA dL_law_724 zc12 (by decide) wf_L_228 hf fun x74 hf => ?_
                            refine z_alen dL_law_727 hf fun x75 hf => ?_
                            refine z_iconst (1 : Int32) dL_law_728 (by decide) ?_
                            refine z_iadd dL_law_729 ?_
                            refine z_cV_i (d' := d - 1) (As := [.int (x75 + (1 : Int32))]) (rest := []) dL_law_730 lk_L_124 rfl hf (fun w1 e1 => zc_X11_below (by omega) e1) (by omega) rfl rfl (Nat.le_of_ble_eq_true rfl) fun y76 hf => ?_
                            refine z_istore [(23, .int y76.1), (18, .int y44.1), (0, .ref sb), (2, .int v2), (3, .ref v3), (5, .ref v5), (6, .ref v6), (7, .ref v7), (8, .int v8), (9, .int v9), (10, .ref v10), (12, .int v12), (14, .int v14), (15, .int v15), (16, .int v16), (17, .int v17)] dL_law_733 (by decide) rfl ?_
                            refine z_aload 6 dL_law_735 rfl ?_
                            refine z_cV_i (d' := d - 1) (As := []) (rest := []) dL_law_737 lk_L_284 rfl hf (fun w1 e1 => zc_X12_isOver (by omega) e1) (by omega) rfl rfl (Nat.le_of_ble_eq_true rfl) fun y77 hf => ?_
                            refine zjn_elim (P := fun (j766 : Int32 → Int32 → Nat → Int32 → Int32 → Int32 → Int32 → zH → Option ((Int32 ⊕ Nat) × zH)) => ∀ (v8 : Int32) (v9 : Int32) (v10 : Nat) (v17 : Int32) (v18 : Int32) (v23 : Int32) (s0 : Int32) (h : zH), j766 v8 v9 v10 v17 v18 v23 s0 h = some w → Z Γ m_L_law d h0 (zoTI w) 766 [(0, .ref sb), (2, .int v2), (3, .ref v3), (5, .ref v5), (6, .ref v6), (7, .ref v7), (8, .int v8), (9, .int v9), (10, .ref v10), (17, .int v17), (18, .int v18), (23, .int v23)] [.int s0] h) hf (fun v8 v9 v10 v17 v18 v23 s0 h hf => ?_) (fun j766 hj766 hf => ?_)
                            · refine z_istore [(11, .int s0), (0, .ref sb), (2, .int v2), (3, .ref v3), (5, .ref v5), (6, .ref v6), (7, .ref v7), (8, .int v8), (9, .int v9), (10, .ref v10), (17, .int v17), (18, .int v18), (23, .int v23)] dL_law_766 (by decide) rfl ?_
                              refine z_aload 5 dL_law_768 rfl ?_
                              refine z_cV_i (d' := d - 1) (As := []) (rest := []) dL_law_770 lk_L_284 rfl hf (fun w1 e1 => zc_X12_isOver (by omega) e1) (by omega) rfl rfl (Nat.le_of_ble_eq_true rfl) fun y80 hf => ?_
                              refine zjn_elim (P := fun (j783 : Int32 → Int32 → Nat → Int32 → Int32 → Int32 → Int32 → Int32 → zH → Option ((Int32 ⊕ Nat) × zH)) => ∀ (v8 : Int32) (v9 : Int32) (v10 : Nat) (v11 : Int32) (v17 : Int32) (v18 : Int32) (v23 : Int32) (s0 : Int32) (h : zH), j783 v8 v9 v10 v11 v17 v18 v23 s0 h = some w → Z Γ m_L_law d h0 (zoTI w) 783 [(0, .ref sb), (2, .int v2), (3, .ref v3), (5, .ref v5), (6, .ref v6), (7, .ref v7), (8, .int v8), (9, .int v9), (10, .ref v10), (11, .int v11), (17, .int v17), (18, .int v18), (23, .int v23)] [.int s0] h) hf (fun v8 v9 v10 v11 v17 v18 v23 s0 h hf => ?_) (fun j783 hj783 hf => ?_)
                              · refine z_istore [(12, .int s0), (0, .ref sb), (2, .int v2), (3, .ref v3), (5, .ref v5), (6, .ref v6), (7, .ref v7), (8, .int v8), (9, .int v9), (10, .ref v10), (11, .int v11), (17, .int v17), (18, .int v18), (23, .int v23)] dL_law_783 (by decide) rfl ?_
                                refine z_iconst (0 : Int32) dL_law_785 (by decide) ?_
                                refine z_istore [(24, .int (0 : Int32)), (12, .int s0), (0, .ref sb), (2, .int v2), (3, .ref v3), (5, .ref v5), (6, .ref v6), (7, .ref v7), (8, .int v8), (9, .int v9), (10, .ref v10), (11, .int v11), (17, .int v17), (18, .int v18), (23, .int v23)] dL_law_786 (by decide) rfl ?_
                                refine Z.sub [2, 3, 4, 5, 6, 7, 8, 9, 10, 11, 1, 12, 13, 14, 0] rfl (zl_L_law_788 hG hd (fun u91 h92 hf => ?_) N v18 (0 : Int32) h hf)
                                · refine z_iload 9 dL_law_847 rfl ?_
                                  refine zjn_elim (P := fun (j863 : Int32 → Int32 → Nat → Int32 → Int32 → Int32 → Int32 → zH → Option ((Int32 ⊕ Nat) × zH)) => ∀ (v8 : Int32) (v9 : Int32) (v10 : Nat) (v11 : Int32) (v12 : Int32) (v18 : Int32) (v23 : Int32) (h : zH), j863 v8 v9 v10 v11 v12 v18 v23 h = some w → Z Γ m_L_law d h0 (zoTI w) 863 [(0, .ref sb), (2, .int v2), (3, .ref v3), (5, .ref v5), (6, .ref v6), (7, .ref v7), (8, .int v8), (9, .int v9), (10, .ref v10), (11, .int v11), (12, .int v12), (18, .int v18), (23, .int v23)] [] h) hf (fun v8 v9 v10 v11 v12 v18 v23 h hf => ?_) (fun j863 hj863 hf => ?_)
                                  · refine z_aload_n 2 dL_law_863 rfl rfl ?_
                                    refine z_iload 11 dL_law_864 rfl ?_
                                    refine z_iload 12 dL_law_866 rfl ?_
                                    refine z_cW_i (d' := d - 1) (As := [.ref v3, .int v18, .int v23]) (rest := []) dL_law_868 lk_L_299 hf (fun w1 e1 => zc_L_cancel (by omega) e1) (by omega) rfl rfl (Nat.le_of_ble_eq_true rfl) fun y94 hf => ?_
                                    refine z_iload 10 dL_law_871 rfl ?_
                                    refine zjn_elim (P := fun (j881 : Int32 → Int32 → Nat → Int32 → Int32 → zH → Option ((Int32 ⊕ Nat) × zH)) => ∀ (v8 : Int32) (v9 : Int32) (v10 : Nat) (v11 : Int32) (s0 : Int32) (h : zH), j881 v8 v9 v10 v11 s0 h = some w → Z Γ m_L_law d h0 (zoTI w) 881 [(0, .ref sb), (2, .int v2), (3, .ref v3), (5, .ref v5), (6, .ref v6), (7, .ref v7), (8, .int v8), (9, .int v9), (10, .ref v10), (11, .int v11)] [.int s0] h) hf (fun v8 v9 v10 v11 s0 h hf => ?_) (fun j881 hj881 hf => ?_)
                                    · refine z_istore_n [(1, .int s0), (0, .ref sb), (2, .int v2), (3, .ref v3), (5, .ref v5), (6, .ref v6), (7, .ref v7), (8, .int v8), (9, .int v9), (10, .ref v10), (11, .int v11)] dL_law_881 rfl (by decide) rfl ?_
                                      refine z_goto 955 dL_law_882 (by decide) ?_
                                      exact Z.sub [1, 0, 2, 3, 4, 5, 6, 7, 8, 9, 10] rfl (hj955 s0 v8 v9 v10 v11 h hf)
                                    · refine z_icmp_ne 880 dL_law_873 (by decide) hf (fun hf => ?_) (fun hf => ?_)
                                      · refine z_iconst (1 : Int32) dL_law_876 (by decide) ?_
                                        refine z_goto 881 dL_law_877 (by decide) ?_
                                        exact Z.sub [0, 1, 2, 3, 4, 5, 6, 7, 8, 9] rfl (hj881 v8 v9 v10 v11 (1 : Int32) y94.2 hf)
                                      · refine z_iconst (0 : Int32) dL_law_880 (by decide) ?_
                                        exact Z.sub [0, 1, 2, 3, 4, 5, 6, 7, 8, 9] rfl (hj881 v8 v9 v10 v11 (0 : Int32) y94.2 hf)
                                  · refine z_if_eq 863 dL_law_849 (by decide) hf (fun hf => ?_) (fun hf => ?_)
                                    · exact Z.sub [0, 1, 2, 3, 4, 5, 6, 7, 8, 9, 10, 11, 12] rfl (hj863 v8 v9 v10 v11 s0 u91 v23 h92 hf)
                                    · refine z_aload 4 dL_law_852 rfl ?_
                                      refine z_iload 11 dL_law_854 rfl ?_
                                      refine z_iload 12 dL_law_856 rfl ?_
                                      refine z_cV_i (d' := d - 1) (As := [.int u91, .int v23]) (rest := []) dL_law_858 lk_L_298 rfl hf (fun w1 e1 => zc_X12_cancel (by omega) e1) (by omega) rfl rfl (Nat.le_of_ble_eq_true rfl) fun y93 hf => ?_
                                      refine z_istore [(12, .int y93.1), (0, .ref sb), (2, .int v2), (3, .ref v3), (5, .ref v5), (6, .ref v6), (7, .ref v7), (8, .int v8), (9, .int v9), (10, .ref v10), (11, .int v11), (18, .int u91), (23, .int v23)] dL_law_861 (by decide) rfl ?_
                                      exact Z.sub [1, 2, 3, 4, 5, 6, 7, 8, 9, 10, 0, 11, 12] rfl (hj863 v8 v9 v10 v11 y93.1 u91 v23 y93.2 hf)
                              · refine z_if_eq 781 dL_law_773 (by decide) hf (fun hf => ?_) (fun hf => ?_)
                                · refine z_ldc (-2000000100 : Int32) dL_law_781 wk_L_59 ?_
                                  exact Z.sub [1, 2, 3, 4, 5, 6, 7, 8, 9, 0, 10, 11, 12] rfl (hj783 v8 v9 v10 s0 v17 v18 v23 (-2000000100 : Int32) y80.2 hf)
                                · refine z_ldc (-2000000099 : Int32) dL_law_776 wk_L_99 ?_
                                  refine z_goto 783 dL_law_778 (by decide) ?_
                                  exact Z.sub [1, 2, 3, 4, 5, 6, 7, 8, 9, 0, 10, 11, 12] rfl (hj783 v8 v9 v10 s0 v17 v18 v23 (-2000000099 : Int32) y80.2 hf)
                            · refine zjn_elim (P := fun (j765 : Int32 → Int32 → Nat → Int32 → Int32 → Int32 → zH → Option ((Int32 ⊕ Nat) × zH)) => ∀ (v8 : Int32) (v9 : Int32) (v10 : Nat) (v17 : Int32) (v18 : Int32) (v23 : Int32) (h : zH), j765 v8 v9 v10 v17 v18 v23 h = some w → Z Γ m_L_law d h0 (zoTI w) 765 [(0, .ref sb), (2, .int v2), (3, .ref v3), (5, .ref v5), (6, .ref v6), (7, .ref v7), (8, .int v8), (9, .int v9), (10, .ref v10), (17, .int v17), (18, .int v18), (23, .int v23)] [] h) hf (fun v8 v9 v10 v17 v18 v23 h hf => ?_) (fun j765 hj765 hf => ?_)
                              · refine z_iconst (0 : Int32) dL_law_765 (by decide) ?_
                                exact Z.sub [0, 1, 2, 3, 4, 5, 6, 7, 8, 9, 10, 11] rfl (hj766 v8 v9 v10 v17 v18 v23 (0 : Int32) h hf)
                              · refine z_if_ne 765 dL_law_740 (by decide) hf (fun hf => ?_) (fun hf => ?_)
                                · refine z_iload 1 dL_law_743 rfl ?_
                                  refine z_iload 15 dL_law_745 rfl ?_
                                  refine z_icmp_ge 765 dL_law_747 (by decide) hf (fun hf => ?_) (fun hf => ?_)
                                  · exact Z.sub [2, 3, 4, 5, 6, 7, 8, 9, 10, 15, 1, 0] rfl (hj765 v8 v9 v10 v17 y44.1 y76.1 y77.2 hf)
                                  · refine z_iload 0 dL_law_750 rfl ?_
                                    refine z_aload 6 dL_law_752 rfl ?_
                                    refine z_getA dL_law_754 zc12 (by decide) wf_L_228 hf fun x78 hf => ?_
                                    refine z_alen dL_law_757 hf fun x79 hf => ?_
                                    refine z_icmp_ge 765 dL_law_758 (by decide) hf (fun hf => ?_) (fun hf => ?_)
                                    · exact Z.sub [2, 3, 4, 5, 6, 7, 8, 9, 10, 15, 1, 0] rfl (hj765 v8 v9 v10 v17 y44.1 y76.1 y77.2 hf)
                                    · refine z_iconst (1 : Int32) dL_law_761 (by decide) ?_
                                      refine z_goto 766 dL_law_762 (by decide) ?_
                                      exact Z.sub [2, 3, 4, 5, 6, 7, 8, 9, 10, 15, 1, 0] rfl (hj766 v8 v9 v10 v17 y44.1 y76.1 (1 : Int32) y77.2 hf)
                                · exact Z.sub [2, 3, 4, 5, 6, 7, 8, 9, 10, 15, 1, 0] rfl (hj765 v8 v9 v10 v17 y44.1 y76.1 y77.2 hf)
                          · rw [if_neg c3] at hf
                            by_cases c4 : y45.1 = (4 : Int32)
                            · rw [if_pos c4] at hf
                              refine z_tableIn 720 dL_law_355 (by rw [c4]; decide) (by rw [c4]; decide) (by rw [c4]; rfl) (by decide) ?_
                              refine z_aload 4 dL_law_720 rfl ?_
                              refine z_aload 5 dL_law_722 rfl ?_
                              refine z_getA dL_law_724 zc12 (by decide) wf_L_228 hf fun x95 hf => ?_
                              refine z_alen dL_law_727 hf fun x96 hf => ?_
                              refine z_iconst (1 : Int32) dL_law_728 (by decide) ?_
                              refine z_iadd dL_law_729 ?_
                              refine z_cV_i (d' := d - 1) (As := [.int (x96 + (1 : Int32))]) (rest := []) dL_law_730 lk_L_124 rfl hf (fun w1 e1 => zc_X11_below (by omega) e1) (by omega) rfl rfl (Nat.le_of_ble_eq_true rfl) fun y97 hf => ?_
                              refine z_istore [(23, .int y97.1), (18, .int y44.1), (0, .ref sb), (2, .int v2), (3, .ref v3), (5, .ref v5), (6, .ref v6), (7, .ref v7), (8, .int v8), (9, .int v9), (10, .ref v10), (12, .int v12), (14, .int v14), (15, .int v15), (16, .int v16), (17, .int v17)] dL_law_733 (by decide) rfl ?_
                              refine z_aload 6 dL_law_735 rfl ?_
                              refine z_cV_i (d' := d - 1) (As := []) (rest := []) dL_law_737 lk_L_284 rfl hf (fun w1 e1 => zc_X12_isOver (by omega) e1) (by omega) rfl rfl (Nat.le_of_ble_eq_true rfl) fun y98 hf => ?_
                              refine zjn_elim (P := fun (j766 : Int32 → Int32 → Nat → Int32 → Int32 → Int32 → Int32 → zH → Option ((Int32 ⊕ Nat) × zH)) => ∀ (v8 : Int32) (v9 : Int32) (v10 : Nat) (v17 : Int32) (v18 : Int32) (v23 : Int32) (s0 : Int32) (h : zH), j766 v8 v9 v10 v17 v18 v23 s0 h = some w → Z Γ m_L_law d h0 (zoTI w) 766 [(0, .ref sb), (2, .int v2), (3, .ref v3), (5, .ref v5), (6, .ref v6), (7, .ref v7), (8, .int v8), (9, .int v9), (10, .ref v10), (17, .int v17), (18, .int v18), (23, .int v23)] [.int s0] h) hf (fun v8 v9 v10 v17 v18 v23 s0 h hf => ?_) (fun j766 hj766 hf => ?_)
                              · refine z_istore [(11, .int s0), (0, .ref sb), (2, .int v2), (3, .ref v3), (5, .ref v5), (6, .ref v6), (7, .ref v7), (8, .int v8), (9, .int v9), (10, .ref v10), (17, .int v17), (18, .int v18), (23, .int v23)] dL_law_766 (by decide) rfl ?_
                                refine z_aload 5 dL_law_768 rfl ?_
                                refine z_cV_i (d' := d - 1) (As := []) (rest := []) dL_law_770 lk_L_284 rfl hf (fun w1 e1 => zc_X12_isOver (by omega) e1) (by omega) rfl rfl (Nat.le_of_ble_eq_true rfl) fun y101 hf => ?_
                                refine zjn_elim (P := fun (j783 : Int32 → Int32 → Nat → Int32 → Int32 → Int32 → Int32 → Int32 → zH → Option ((Int32 ⊕ Nat) × zH)) => ∀ (v8 : Int32) (v9 : Int32) (v10 : Nat) (v11 : Int32) (v17 : Int32) (v18 : Int32) (v23 : Int32) (s0 : Int32) (h : zH), j783 v8 v9 v10 v11 v17 v18 v23 s0 h = some w → Z Γ m_L_law d h0 (zoTI w) 783 [(0, .ref sb), (2, .int v2), (3, .ref v3), (5, .ref v5), (6, .ref v6), (7, .ref v7), (8, .int v8), (9, .int v9), (10, .ref v10), (11, .int v11), (17, .int v17), (18, .int v18), (23, .int v23)] [.int s0] h) hf (fun v8 v9 v10 v11 v17 v18 v23 s0 h hf => ?_) (fun j783 hj783 hf => ?_)
                                · refine z_istore [(12, .int s0), (0, .ref sb), (2, .int v2), (3, .ref v3), (5, .ref v5), (6, .ref v6), (7, .ref v7), (8, .int v8), (9, .int v9), (10, .ref v10), (11, .int v11), (17, .int v17), (18, .int v18), (23, .int v23)] dL_law_783 (by decide) rfl ?_
                                  refine z_iconst (0 : Int32) dL_law_785 (by decide) ?_
                                  refine z_istore [(24, .int (0 : Int32)), (12, .int s0), (0, .ref sb), (2, .int v2), (3, .ref v3), (5, .ref v5), (6, .ref v6), (7, .ref v7), (8, .int v8), (9, .int v9), (10, .ref v10), (11, .int v11), (17, .int v17), (18, .int v18), (23, .int v23)] dL_law_786 (by decide) rfl ?_
                                  refine Z.sub [2, 3, 4, 5, 6, 7, 8, 9, 10, 11, 1, 12, 13, 14, 0] rfl (zl_L_law_788 hG hd (fun u112 h113 hf => ?_) N v18 (0 : Int32) h hf)
                                  · refine z_iload 9 dL_law_847 rfl ?_
                                    refine zjn_elim (P := fun (j863 : Int32 → Int32 → Nat → Int32 → Int32 → Int32 → Int32 → zH → Option ((Int32 ⊕ Nat) × zH)) => ∀ (v8 : Int32) (v9 : Int32) (v10 : Nat) (v11 : Int32) (v12 : Int32) (v18 : Int32) (v23 : Int32) (h : zH), j863 v8 v9 v10 v11 v12 v18 v23 h = some w → Z Γ m_L_law d h0 (zoTI w) 863 [(0, .ref sb), (2, .int v2), (3, .ref v3), (5, .ref v5), (6, .ref v6), (7, .ref v7), (8, .int v8), (9, .int v9), (10, .ref v10), (11, .int v11), (12, .int v12), (18, .int v18), (23, .int v23)] [] h) hf (fun v8 v9 v10 v11 v12 v18 v23 h hf => ?_) (fun j863 hj863 hf => ?_)
                                    · refine z_aload_n 2 dL_law_863 rfl rfl ?_
                                      refine z_iload 11 dL_law_864 rfl ?_
                                      refine z_iload 12 dL_law_866 rfl ?_
                                      refine z_cW_i (d' := d - 1) (As := [.ref v3, .int v18, .int v23]) (rest := []) dL_law_868 lk_L_299 hf (fun w1 e1 => zc_L_cancel (by omega) e1) (by omega) rfl rfl (Nat.le_of_ble_eq_true rfl) fun y115 hf => ?_
                                      refine z_iload 10 dL_law_871 rfl ?_
                                      refine zjn_elim (P := fun (j881 : Int32 → Int32 → Nat → Int32 → Int32 → zH → Option ((Int32 ⊕ Nat) × zH)) => ∀ (v8 : Int32) (v9 : Int32) (v10 : Nat) (v11 : Int32) (s0 : Int32) (h : zH), j881 v8 v9 v10 v11 s0 h = some w → Z Γ m_L_law d h0 (zoTI w) 881 [(0, .ref sb), (2, .int v2), (3, .ref v3), (5, .ref v5), (6, .ref v6), (7, .ref v7), (8, .int v8), (9, .int v9), (10, .ref v10), (11, .int v11)] [.int s0] h) hf (fun v8 v9 v10 v11 s0 h hf => ?_) (fun j881 hj881 hf => ?_)
                                      · refine z_istore_n [(1, .int s0), (0, .ref sb), (2, .int v2), (3, .ref v3), (5, .ref v5), (6, .ref v6), (7, .ref v7), (8, .int v8), (9, .int v9), (10, .ref v10), (11, .int v11)] dL_law_881 rfl (by decide) rfl ?_
                                        refine z_goto 955 dL_law_882 (by decide) ?_
                                        exact Z.sub [1, 0, 2, 3, 4, 5, 6, 7, 8, 9, 10] rfl (hj955 s0 v8 v9 v10 v11 h hf)
                                      · refine z_icmp_ne 880 dL_law_873 (by decide) hf (fun hf => ?_) (fun hf => ?_)
                                        · refine z_iconst (1 : Int32) dL_law_876 (by decide) ?_
                                          refine z_goto 881 dL_law_877 (by decide) ?_
                                          exact Z.sub [0, 1, 2, 3, 4, 5, 6, 7, 8, 9] rfl (hj881 v8 v9 v10 v11 (1 : Int32) y115.2 hf)
                                        · refine z_iconst (0 : Int32) dL_law_880 (by decide) ?_
                                          exact Z.sub [0, 1, 2, 3, 4, 5, 6, 7, 8, 9] rfl (hj881 v8 v9 v10 v11 (0 : Int32) y115.2 hf)
                                    · refine z_if_eq 863 dL_law_849 (by decide) hf (fun hf => ?_) (fun hf => ?_)
                                      · exact Z.sub [0, 1, 2, 3, 4, 5, 6, 7, 8, 9, 10, 11, 12] rfl (hj863 v8 v9 v10 v11 s0 u112 v23 h113 hf)
                                      · refine z_aload 4 dL_law_852 rfl ?_
                                        refine z_iload 11 dL_law_854 rfl ?_
                                        refine z_iload 12 dL_law_856 rfl ?_
                                        refine z_cV_i (d' := d - 1) (As := [.int u112, .int v23]) (rest := []) dL_law_858 lk_L_298 rfl hf (fun w1 e1 => zc_X12_cancel (by omega) e1) (by omega) rfl rfl (Nat.le_of_ble_eq_true rfl) fun y114 hf => ?_
                                        refine z_istore [(12, .int y114.1), (0, .ref sb), (2, .int v2), (3, .ref v3), (5, .ref v5), (6, .ref v6), (7, .ref v7), (8, .int v8), (9, .int v9), (10, .ref v10), (11, .int v11), (18, .int u112), (23, .int v23)] dL_law_861 (by decide) rfl ?_
                                        exact Z.sub [1, 2, 3, 4, 5, 6, 7, 8, 9, 10, 0, 11, 12] rfl (hj863 v8 v9 v10 v11 y114.1 u112 v23 y114.2 hf)
                                · refine z_if_eq 781 dL_law_773 (by decide) hf (fun hf => ?_) (fun hf => ?_)
                                  · refine z_ldc (-2000000100 : Int32) dL_law_781 wk_L_59 ?_
                                    exact Z.sub [1, 2, 3, 4, 5, 6, 7, 8, 9, 0, 10, 11, 12] rfl (hj783 v8 v9 v10 s0 v17 v18 v23 (-2000000100 : Int32) y101.2 hf)
                                  · refine z_ldc (-2000000099 : Int32) dL_law_776 wk_L_99 ?_
                                    refine z_goto 783 dL_law_778 (by decide) ?_
                                    exact Z.sub [1, 2, 3, 4, 5, 6, 7, 8, 9, 0, 10, 11, 12] rfl (hj783 v8 v9 v10 s0 v17 v18 v23 (-2000000099 : Int32) y101.2 hf)
                              · refine zjn_elim (P := fun (j765 : Int32 → Int32 → Nat → Int32 → Int32 → Int32 → zH → Option ((Int32 ⊕ Nat) × zH)) => ∀ (v8 : Int32) (v9 : Int32) (v10 : Nat) (v17 : Int32) (v18 : Int32) (v23 : Int32) (h : zH), j765 v8 v9 v10 v17 v18 v23 h = some w → Z Γ m_L_law d h0 (zoTI w) 765 [(0, .ref sb), (2, .int v2), (3, .ref v3), (5, .ref v5), (6, .ref v6), (7, .ref v7), (8, .int v8), (9, .int v9), (10, .ref v10), (17, .int v17), (18, .int v18), (23, .int v23)] [] h) hf (fun v8 v9 v10 v17 v18 v23 h hf => ?_) (fun j765 hj765 hf => ?_)
                                · refine z_iconst (0 : Int32) dL_law_765 (by decide) ?_
                                  exact Z.sub [0, 1, 2, 3, 4, 5, 6, 7, 8, 9, 10, 11] rfl (hj766 v8 v9 v10 v17 v18 v23 (0 : Int32) h hf)
                                · refine z_if_ne 765 dL_law_740 (by decide) hf (fun hf => ?_) (fun hf => ?_)
                                  · refine z_iload 1 dL_law_743 rfl ?_
                                    refine z_iload 15 dL_law_745 rfl ?_
                                    refine z_icmp_ge 765 dL_law_747 (by decide) hf (fun hf => ?_) (fun hf => ?_)
                                    · exact Z.sub [2, 3, 4, 5, 6, 7, 8, 9, 10, 15, 1, 0] rfl (hj765 v8 v9 v10 v17 y44.1 y97.1 y98.2 hf)
                                    · refine z_iload 0 dL_law_750 rfl ?_
                                      refine z_aload 6 dL_law_752 rfl ?_
                                      refine z_getA dL_law_754 zc12 (by decide) wf_L_228 hf fun x99 hf => ?_
                                      refine z_alen dL_law_757 hf fun x100 hf => ?_
                                      refine z_icmp_ge 765 dL_law_758 (by decide) hf (fun hf => ?_) (fun hf => ?_)
                                      · exact Z.sub [2, 3, 4, 5, 6, 7, 8, 9, 10, 15, 1, 0] rfl (hj765 v8 v9 v10 v17 y44.1 y97.1 y98.2 hf)
                                      · refine z_iconst (1 : Int32) dL_law_761 (by decide) ?_
                                        refine z_goto 766 dL_law_762 (by decide) ?_
                                        exact Z.sub [2, 3, 4, 5, 6, 7, 8, 9, 10, 15, 1, 0] rfl (hj766 v8 v9 v10 v17 y44.1 y97.1 (1 : Int32) y98.2 hf)
                                  · exact Z.sub [2, 3, 4, 5, 6, 7, 8, 9, 10, 15, 1, 0] rfl (hj765 v8 v9 v10 v17 y44.1 y97.1 y98.2 hf)
                            · rw [if_neg c4] at hf
                              by_cases c5 : y45.1 = (5 : Int32)
                              · rw [if_pos c5] at hf
                                refine z_tableIn 720 dL_law_355 (by rw [c5]; decide) (by rw [c5]; decide) (by rw [c5]; rfl) (by decide) ?_
                                refine z_aload 4 dL_law_720 rfl ?_
                                refine z_aload 5 dL_law_722 rfl ?_
                                refine z_getA dL_law_724 zc12 (by decide) wf_L_228 hf fun x116 hf => ?_
                                refine z_alen dL_law_727 hf fun x117 hf => ?_
                                refine z_iconst (1 : Int32) dL_law_728 (by decide) ?_
                                refine z_iadd dL_law_729 ?_
                                refine z_cV_i (d' := d - 1) (As := [.int (x117 + (1 : Int32))]) (rest := []) dL_law_730 lk_L_124 rfl hf (fun w1 e1 => zc_X11_below (by omega) e1) (by omega) rfl rfl (Nat.le_of_ble_eq_true rfl) fun y118 hf => ?_
                                refine z_istore [(23, .int y118.1), (18, .int y44.1), (0, .ref sb), (2, .int v2), (3, .ref v3), (5, .ref v5), (6, .ref v6), (7, .ref v7), (8, .int v8), (9, .int v9), (10, .ref v10), (12, .int v12), (14, .int v14), (15, .int v15), (16, .int v16), (17, .int v17)] dL_law_733 (by decide) rfl ?_
                                refine z_aload 6 dL_law_735 rfl ?_
                                refine z_cV_i (d' := d - 1) (As := []) (rest := []) dL_law_737 lk_L_284 rfl hf (fun w1 e1 => zc_X12_isOver (by omega) e1) (by omega) rfl rfl (Nat.le_of_ble_eq_true rfl) fun y119 hf => ?_
                                refine zjn_elim (P := fun (j766 : Int32 → Int32 → Nat → Int32 → Int32 → Int32 → Int32 → zH → Option ((Int32 ⊕ Nat) × zH)) => ∀ (v8 : Int32) (v9 : Int32) (v10 : Nat) (v17 : Int32) (v18 : Int32) (v23 : Int32) (s0 : Int32) (h : zH), j766 v8 v9 v10 v17 v18 v23 s0 h = some w → Z Γ m_L_law d h0 (zoTI w) 766 [(0, .ref sb), (2, .int v2), (3, .ref v3), (5, .ref v5), (6, .ref v6), (7, .ref v7), (8, .int v8), (9, .int v9), (10, .ref v10), (17, .int v17), (18, .int v18), (23, .int v23)] [.int s0] h) hf (fun v8 v9 v10 v17 v18 v23 s0 h hf => ?_) (fun j766 hj766 hf => ?_)
                                · refine z_istore [(11, .int s0), (0, .ref sb), (2, .int v2), (3, .ref v3), (5, .ref v5), (6, .ref v6), (7, .ref v7), (8, .int v8), (9, .int v9), (10, .ref v10), (17, .int v17), (18, .int v18), (23, .int v23)] dL_law_766 (by decide) rfl ?_
                                  refine z_aload 5 dL_law_768 rfl ?_
                                  refine z_cV_i (d' := d - 1) (As := []) (rest := []) dL_law_770 lk_L_284 rfl hf (fun w1 e1 => zc_X12_isOver (by omega) e1) (by omega) rfl rfl (Nat.le_of_ble_eq_true rfl) fun y122 hf => ?_
                                  refine zjn_elim (P := fun (j783 : Int32 → Int32 → Nat → Int32 → Int32 → Int32 → Int32 → Int32 → zH → Option ((Int32 ⊕ Nat) × zH)) => ∀ (v8 : Int32) (v9 : Int32) (v10 : Nat) (v11 : Int32) (v17 : Int32) (v18 : Int32) (v23 : Int32) (s0 : Int32) (h : zH), j783 v8 v9 v10 v11 v17 v18 v23 s0 h = some w → Z Γ m_L_law d h0 (zoTI w) 783 [(0, .ref sb), (2, .int v2), (3, .ref v3), (5, .ref v5), (6, .ref v6), (7, .ref v7), (8, .int v8), (9, .int v9), (10, .ref v10), (11, .int v11), (17, .int v17), (18, .int v18), (23, .int v23)] [.int s0] h) hf (fun v8 v9 v10 v11 v17 v18 v23 s0 h hf => ?_) (fun j783 hj783 hf => ?_)
                                  · refine z_istore [(12, .int s0), (0, .ref sb), (2, .int v2), (3, .ref v3), (5, .ref v5), (6, .ref v6), (7, .ref v7), (8, .int v8), (9, .int v9), (10, .ref v10), (11, .int v11), (17, .int v17), (18, .int v18), (23, .int v23)] dL_law_783 (by decide) rfl ?_
                                    refine z_iconst (0 : Int32) dL_law_785 (by decide) ?_
                                    refine z_istore [(24, .int (0 : Int32)), (12, .int s0), (0, .ref sb), (2, .int v2), (3, .ref v3), (5, .ref v5), (6, .ref v6), (7, .ref v7), (8, .int v8), (9, .int v9), (10, .ref v10), (11, .int v11), (17, .int v17), (18, .int v18), (23, .int v23)] dL_law_786 (by decide) rfl ?_
                                    refine Z.sub [2, 3, 4, 5, 6, 7, 8, 9, 10, 11, 1, 12, 13, 14, 0] rfl (zl_L_law_788 hG hd (fun u133 h134 hf => ?_) N v18 (0 : Int32) h hf)
                                    · refine z_iload 9 dL_law_847 rfl ?_
                                      refine zjn_elim (P := fun (j863 : Int32 → Int32 → Nat → Int32 → Int32 → Int32 → Int32 → zH → Option ((Int32 ⊕ Nat) × zH)) => ∀ (v8 : Int32) (v9 : Int32) (v10 : Nat) (v11 : Int32) (v12 : Int32) (v18 : Int32) (v23 : Int32) (h : zH), j863 v8 v9 v10 v11 v12 v18 v23 h = some w → Z Γ m_L_law d h0 (zoTI w) 863 [(0, .ref sb), (2, .int v2), (3, .ref v3), (5, .ref v5), (6, .ref v6), (7, .ref v7), (8, .int v8), (9, .int v9), (10, .ref v10), (11, .int v11), (12, .int v12), (18, .int v18), (23, .int v23)] [] h) hf (fun v8 v9 v10 v11 v12 v18 v23 h hf => ?_) (fun j863 hj863 hf => ?_)
                                      · refine z_aload_n 2 dL_law_863 rfl rfl ?_
                                        refine z_iload 11 dL_law_864 rfl ?_
                                        refine z_iload 12 dL_law_866 rfl ?_
                                        refine z_cW_i (d' := d - 1) (As := [.ref v3, .int v18, .int v23]) (rest := []) dL_law_868 lk_L_299 hf (fun w1 e1 => zc_L_cancel (by omega) e1) (by omega) rfl rfl (Nat.le_of_ble_eq_true rfl) fun y136 hf => ?_
                                        refine z_iload 10 dL_law_871 rfl ?_
                                        refine zjn_elim (P := fun (j881 : Int32 → Int32 → Nat → Int32 → Int32 → zH → Option ((Int32 ⊕ Nat) × zH)) => ∀ (v8 : Int32) (v9 : Int32) (v10 : Nat) (v11 : Int32) (s0 : Int32) (h : zH), j881 v8 v9 v10 v11 s0 h = some w → Z Γ m_L_law d h0 (zoTI w) 881 [(0, .ref sb), (2, .int v2), (3, .ref v3), (5, .ref v5), (6, .ref v6), (7, .ref v7), (8, .int v8), (9, .int v9), (10, .ref v10), (11, .int v11)] [.int s0] h) hf (fun v8 v9 v10 v11 s0 h hf => ?_) (fun j881 hj881 hf => ?_)
                                        · refine z_istore_n [(1, .int s0), (0, .ref sb), (2, .int v2), (3, .ref v3), (5, .ref v5), (6, .ref v6), (7, .ref v7), (8, .int v8), (9, .int v9), (10, .ref v10), (11, .int v11)] dL_law_881 rfl (by decide) rfl ?_
                                          refine z_goto 955 dL_law_882 (by decide) ?_
                                          exact Z.sub [1, 0, 2, 3, 4, 5, 6, 7, 8, 9, 10] rfl (hj955 s0 v8 v9 v10 v11 h hf)
                                        · refine z_icmp_ne 880 dL_law_873 (by decide) hf (fun hf => ?_) (fun hf => ?_)
                                          · refine z_iconst (1 : Int32) dL_law_876 (by decide) ?_
                                            refine z_goto 881 dL_law_877 (by decide) ?_
                                            exact Z.sub [0, 1, 2, 3, 4, 5, 6, 7, 8, 9] rfl (hj881 v8 v9 v10 v11 (1 : Int32) y136.2 hf)
                                          · refine z_iconst (0 : Int32) dL_law_880 (by decide) ?_
                                            exact Z.sub [0, 1, 2, 3, 4, 5, 6, 7, 8, 9] rfl (hj881 v8 v9 v10 v11 (0 : Int32) y136.2 hf)
                                      · refine z_if_eq 863 dL_law_849 (by decide) hf (fun hf => ?_) (fun hf => ?_)
                                        · exact Z.sub [0, 1, 2, 3, 4, 5, 6, 7, 8, 9, 10, 11, 12] rfl (hj863 v8 v9 v10 v11 s0 u133 v23 h134 hf)
                                        · refine z_aload 4 dL_law_852 rfl ?_
                                          refine z_iload 11 dL_law_854 rfl ?_
                                          refine z_iload 12 dL_law_856 rfl ?_
                                          refine z_cV_i (d' := d - 1) (As := [.int u133, .int v23]) (rest := []) dL_law_858 lk_L_298 rfl hf (fun w1 e1 => zc_X12_cancel (by omega) e1) (by omega) rfl rfl (Nat.le_of_ble_eq_true rfl) fun y135 hf => ?_
                                          refine z_istore [(12, .int y135.1), (0, .ref sb), (2, .int v2), (3, .ref v3), (5, .ref v5), (6, .ref v6), (7, .ref v7), (8, .int v8), (9, .int v9), (10, .ref v10), (11, .int v11), (18, .int u133), (23, .int v23)] dL_law_861 (by decide) rfl ?_
                                          exact Z.sub [1, 2, 3, 4, 5, 6, 7, 8, 9, 10, 0, 11, 12] rfl (hj863 v8 v9 v10 v11 y135.1 u133 v23 y135.2 hf)
                                  · refine z_if_eq 781 dL_law_773 (by decide) hf (fun hf => ?_) (fun hf => ?_)
                                    · refine z_ldc (-2000000100 : Int32) dL_law_781 wk_L_59 ?_
                                      exact Z.sub [1, 2, 3, 4, 5, 6, 7, 8, 9, 0, 10, 11, 12] rfl (hj783 v8 v9 v10 s0 v17 v18 v23 (-2000000100 : Int32) y122.2 hf)
                                    · refine z_ldc (-2000000099 : Int32) dL_law_776 wk_L_99 ?_
                                      refine z_goto 783 dL_law_778 (by decide) ?_
                                      exact Z.sub [1, 2, 3, 4, 5, 6, 7, 8, 9, 0, 10, 11, 12] rfl (hj783 v8 v9 v10 s0 v17 v18 v23 (-2000000099 : Int32) y122.2 hf)
                                · refine zjn_elim (P := fun (j765 : Int32 → Int32 → Nat → Int32 → Int32 → Int32 → zH → Option ((Int32 ⊕ Nat) × zH)) => ∀ (v8 : Int32) (v9 : Int32) (v10 : Nat) (v17 : Int32) (v18 : Int32) (v23 : Int32) (h : zH), j765 v8 v9 v10 v17 v18 v23 h = some w → Z Γ m_L_law d h0 (zoTI w) 765 [(0, .ref sb), (2, .int v2), (3, .ref v3), (5, .ref v5), (6, .ref v6), (7, .ref v7), (8, .int v8), (9, .int v9), (10, .ref v10), (17, .int v17), (18, .int v18), (23, .int v23)] [] h) hf (fun v8 v9 v10 v17 v18 v23 h hf => ?_) (fun j765 hj765 hf => ?_)
                                  · refine z_iconst (0 : Int32) dL_law_765 (by decide) ?_
                                    exact Z.sub [0, 1, 2, 3, 4, 5, 6, 7, 8, 9, 10, 11] rfl (hj766 v8 v9 v10 v17 v18 v23 (0 : Int32) h hf)
                                  · refine z_if_ne 765 dL_law_740 (by decide) hf (fun hf => ?_) (fun hf => ?_)
                                    · refine z_iload 1 dL_law_743 rfl ?_
                                      refine z_iload 15 dL_law_745 rfl ?_
                                      refine z_icmp_ge 765 dL_law_747 (by decide) hf (fun hf => ?_) (fun hf => ?_)
                                      · exact Z.sub [2, 3, 4, 5, 6, 7, 8, 9, 10, 15, 1, 0] rfl (hj765 v8 v9 v10 v17 y44.1 y118.1 y119.2 hf)
                                      · refine z_iload 0 dL_law_750 rfl ?_
                                        refine z_aload 6 dL_law_752 rfl ?_
                                        refine z_getA dL_law_754 zc12 (by decide) wf_L_228 hf fun x120 hf => ?_
                                        refine z_alen dL_law_757 hf fun x121 hf => ?_
                                        refine z_icmp_ge 765 dL_law_758 (by decide) hf (fun hf => ?_) (fun hf => ?_)
                                        · exact Z.sub [2, 3, 4, 5, 6, 7, 8, 9, 10, 15, 1, 0] rfl (hj765 v8 v9 v10 v17 y44.1 y118.1 y119.2 hf)
                                        · refine z_iconst (1 : Int32) dL_law_761 (by decide) ?_
                                          refine z_goto 766 dL_law_762 (by decide) ?_
                                          exact Z.sub [2, 3, 4, 5, 6, 7, 8, 9, 10, 15, 1, 0] rfl (hj766 v8 v9 v10 v17 y44.1 y118.1 (1 : Int32) y119.2 hf)
                                    · exact Z.sub [2, 3, 4, 5, 6, 7, 8, 9, 10, 15, 1, 0] rfl (hj765 v8 v9 v10 v17 y44.1 y118.1 y119.2 hf)
                              · rw [if_neg c5] at hf
                                refine z_tableOut 885 dL_law_355 (by have q := z_sw_out (x := y45.1) (lo := (0 : Int)) (n := 6) (by decide) (by decide) (lt_s (i := 5) (lt_s (i := 4) (lt_s (i := 3) (lt_s (i := 2) (lt_s (i := 1) (lt_s (i := 0) lt_0 (fun e => c0 (e.trans (by decide)))) (fun e => c1 (e.trans (by decide)))) (fun e => c2 (e.trans (by decide)))) (fun e => c3 (e.trans (by decide)))) (fun e => c4 (e.trans (by decide)))) (fun e => c5 (e.trans (by decide)))); omega) (by decide) ?_
                                refine z_aload 5 dL_law_885 rfl ?_
                                refine z_cV_i (d' := d - 1) (As := []) (rest := []) dL_law_887 lk_L_284 rfl hf (fun w1 e1 => zc_X12_isOver (by omega) e1) (by omega) rfl rfl (Nat.le_of_ble_eq_true rfl) fun y137 hf => ?_
                                refine zjn_elim (P := fun (j905 : Int32 → Int32 → Nat → Int32 → Int32 → zH → Option ((Int32 ⊕ Nat) × zH)) => ∀ (v8 : Int32) (v9 : Int32) (v10 : Nat) (v18 : Int32) (s0 : Int32) (h : zH), j905 v8 v9 v10 v18 s0 h = some w → Z Γ m_L_law d h0 (zoTI w) 905 [(0, .ref sb), (2, .int v2), (3, .ref v3), (5, .ref v5), (6, .ref v6), (7, .ref v7), (8, .int v8), (9, .int v9), (10, .ref v10), (18, .int v18)] [.int s0] h) hf (fun v8 v9 v10 v18 s0 h hf => ?_) (fun j905 hj905 hf => ?_)
                                · refine z_istore [(11, .int s0), (0, .ref sb), (2, .int v2), (3, .ref v3), (5, .ref v5), (6, .ref v6), (7, .ref v7), (8, .int v8), (9, .int v9), (10, .ref v10), (18, .int v18)] dL_law_905 (by decide) rfl ?_
                                  refine z_aload 5 dL_law_907 rfl ?_
                                  refine z_cV_i (d' := d - 1) (As := []) (rest := []) dL_law_909 lk_L_284 rfl hf (fun w1 e1 => zc_X12_isOver (by omega) e1) (by omega) rfl rfl (Nat.le_of_ble_eq_true rfl) fun y138 hf => ?_
                                  refine zjn_elim (P := fun (j922 : Int32 → Int32 → Nat → Int32 → Int32 → Int32 → zH → Option ((Int32 ⊕ Nat) × zH)) => ∀ (v8 : Int32) (v9 : Int32) (v10 : Nat) (v11 : Int32) (v18 : Int32) (s0 : Int32) (h : zH), j922 v8 v9 v10 v11 v18 s0 h = some w → Z Γ m_L_law d h0 (zoTI w) 922 [(0, .ref sb), (2, .int v2), (3, .ref v3), (5, .ref v5), (6, .ref v6), (7, .ref v7), (8, .int v8), (9, .int v9), (10, .ref v10), (11, .int v11), (18, .int v18)] [.int s0] h) hf (fun v8 v9 v10 v11 v18 s0 h hf => ?_) (fun j922 hj922 hf => ?_)
                                  · refine z_istore [(12, .int s0), (0, .ref sb), (2, .int v2), (3, .ref v3), (5, .ref v5), (6, .ref v6), (7, .ref v7), (8, .int v8), (9, .int v9), (10, .ref v10), (11, .int v11), (18, .int v18)] dL_law_922 (by decide) rfl ?_
                                    refine z_iload 10 dL_law_924 rfl ?_
                                    refine zjn_elim (P := fun (j938 : Int32 → Int32 → Nat → Int32 → Int32 → Int32 → zH → Option ((Int32 ⊕ Nat) × zH)) => ∀ (v8 : Int32) (v9 : Int32) (v10 : Nat) (v11 : Int32) (v12 : Int32) (v18 : Int32) (h : zH), j938 v8 v9 v10 v11 v12 v18 h = some w → Z Γ m_L_law d h0 (zoTI w) 938 [(0, .ref sb), (2, .int v2), (3, .ref v3), (5, .ref v5), (6, .ref v6), (7, .ref v7), (8, .int v8), (9, .int v9), (10, .ref v10), (11, .int v11), (12, .int v12), (18, .int v18)] [] h) hf (fun v8 v9 v10 v11 v12 v18 h hf => ?_) (fun j938 hj938 hf => ?_)
                                    · refine z_aload_n 2 dL_law_938 rfl rfl ?_
                                      refine z_iload 11 dL_law_939 rfl ?_
                                      refine z_cW_i (d' := d - 1) (As := [.ref v3, .int v18]) (rest := []) dL_law_941 lk_L_267 hf (fun w1 e1 => zc_L_play (by omega) e1) (by omega) rfl rfl (Nat.le_of_ble_eq_true rfl) fun y140 hf => ?_
                                      refine z_iload 10 dL_law_944 rfl ?_
                                      refine zjn_elim (P := fun (j954 : Int32 → Int32 → Nat → Int32 → Int32 → zH → Option ((Int32 ⊕ Nat) × zH)) => ∀ (v8 : Int32) (v9 : Int32) (v10 : Nat) (v11 : Int32) (s0 : Int32) (h : zH), j954 v8 v9 v10 v11 s0 h = some w → Z Γ m_L_law d h0 (zoTI w) 954 [(0, .ref sb), (2, .int v2), (3, .ref v3), (5, .ref v5), (6, .ref v6), (7, .ref v7), (8, .int v8), (9, .int v9), (10, .ref v10), (11, .int v11)] [.int s0] h) hf (fun v8 v9 v10 v11 s0 h hf => ?_) (fun j954 hj954 hf => ?_)
                                      · refine z_istore_n [(1, .int s0), (0, .ref sb), (2, .int v2), (3, .ref v3), (5, .ref v5), (6, .ref v6), (7, .ref v7), (8, .int v8), (9, .int v9), (10, .ref v10), (11, .int v11)] dL_law_954 rfl (by decide) rfl ?_
                                        exact Z.sub [1, 0, 2, 3, 4, 5, 6, 7, 8, 9, 10] rfl (hj955 s0 v8 v9 v10 v11 h hf)
                                      · refine z_icmp_ne 953 dL_law_946 (by decide) hf (fun hf => ?_) (fun hf => ?_)
                                        · refine z_iconst (1 : Int32) dL_law_949 (by decide) ?_
                                          refine z_goto 954 dL_law_950 (by decide) ?_
                                          exact Z.sub [0, 1, 2, 3, 4, 5, 6, 7, 8, 9] rfl (hj954 v8 v9 v10 v11 (1 : Int32) y140.2 hf)
                                        · refine z_iconst (0 : Int32) dL_law_953 (by decide) ?_
                                          exact Z.sub [0, 1, 2, 3, 4, 5, 6, 7, 8, 9] rfl (hj954 v8 v9 v10 v11 (0 : Int32) y140.2 hf)
                                    · refine z_if_eq 938 dL_law_926 (by decide) hf (fun hf => ?_) (fun hf => ?_)
                                      · exact Z.sub [1, 2, 3, 4, 5, 6, 7, 8, 9, 10, 0, 11] rfl (hj938 v8 v9 v10 v11 s0 v18 h hf)
                                      · refine z_aload 5 dL_law_929 rfl ?_
                                        refine z_iload 11 dL_law_931 rfl ?_
                                        refine z_cV_i (d' := d - 1) (As := [.int v18]) (rest := []) dL_law_933 lk_L_301 rfl hf (fun w1 e1 => zc_X12_play (by omega) e1) (by omega) rfl rfl (Nat.le_of_ble_eq_true rfl) fun y139 hf => ?_
                                        refine z_istore [(12, .int y139.1), (0, .ref sb), (2, .int v2), (3, .ref v3), (5, .ref v5), (6, .ref v6), (7, .ref v7), (8, .int v8), (9, .int v9), (10, .ref v10), (11, .int v11), (18, .int v18)] dL_law_936 (by decide) rfl ?_
                                        exact Z.sub [1, 2, 3, 4, 5, 6, 7, 8, 9, 10, 0, 11] rfl (hj938 v8 v9 v10 v11 y139.1 v18 y139.2 hf)
                                  · refine z_if_eq 920 dL_law_912 (by decide) hf (fun hf => ?_) (fun hf => ?_)
                                    · refine z_ldc (-2000000100 : Int32) dL_law_920 wk_L_59 ?_
                                      exact Z.sub [1, 2, 3, 4, 5, 6, 7, 8, 9, 0, 10] rfl (hj922 v8 v9 v10 s0 v18 (-2000000100 : Int32) y138.2 hf)
                                    · refine z_ldc (-2000000099 : Int32) dL_law_915 wk_L_99 ?_
                                      refine z_goto 922 dL_law_917 (by decide) ?_
                                      exact Z.sub [1, 2, 3, 4, 5, 6, 7, 8, 9, 0, 10] rfl (hj922 v8 v9 v10 s0 v18 (-2000000099 : Int32) y138.2 hf)
                                · refine zjn_elim (P := fun (j904 : Int32 → Int32 → Nat → Int32 → zH → Option ((Int32 ⊕ Nat) × zH)) => ∀ (v8 : Int32) (v9 : Int32) (v10 : Nat) (v18 : Int32) (h : zH), j904 v8 v9 v10 v18 h = some w → Z Γ m_L_law d h0 (zoTI w) 904 [(0, .ref sb), (2, .int v2), (3, .ref v3), (5, .ref v5), (6, .ref v6), (7, .ref v7), (8, .int v8), (9, .int v9), (10, .ref v10), (18, .int v18)] [] h) hf (fun v8 v9 v10 v18 h hf => ?_) (fun j904 hj904 hf => ?_)
                                  · refine z_iconst (0 : Int32) dL_law_904 (by decide) ?_
                                    exact Z.sub [0, 1, 2, 3, 4, 5, 6, 7, 8, 9] rfl (hj905 v8 v9 v10 v18 (0 : Int32) h hf)
                                  · refine z_if_ne 904 dL_law_890 (by decide) hf (fun hf => ?_) (fun hf => ?_)
                                    · refine z_iload 0 dL_law_893 rfl ?_
                                      refine z_iload 14 dL_law_895 rfl ?_
                                      refine z_icmp_ge 904 dL_law_897 (by decide) hf (fun hf => ?_) (fun hf => ?_)
                                      · exact Z.sub [1, 2, 3, 4, 5, 6, 7, 8, 9, 0] rfl (hj904 v8 v9 v10 y44.1 y137.2 hf)
                                      · refine z_iconst (1 : Int32) dL_law_900 (by decide) ?_
                                        refine z_goto 905 dL_law_901 (by decide) ?_
                                        exact Z.sub [1, 2, 3, 4, 5, 6, 7, 8, 9, 0] rfl (hj905 v8 v9 v10 y44.1 (1 : Int32) y137.2 hf)
                                    · exact Z.sub [1, 2, 3, 4, 5, 6, 7, 8, 9, 0] rfl (hj904 v8 v9 v10 y44.1 y137.2 hf)
                · refine zjn_elim (P := fun (j337 : Int32 → Int32 → Nat → Int32 → Int32 → Int32 → Int32 → Int32 → Nat → Int32 → zH → Option ((Int32 ⊕ Nat) × zH)) => ∀ (v8 : Int32) (v9 : Int32) (v10 : Nat) (v12 : Int32) (v14 : Int32) (v15 : Int32) (v16 : Int32) (v17 : Int32) (s0 : Nat) (s1 : Int32) (h : zH), j337 v8 v9 v10 v12 v14 v15 v16 v17 s0 s1 h = some w → Z Γ m_L_law d h0 (zoTI w) 337 [(0, .ref sb), (2, .int v2), (3, .ref v3), (5, .ref v5), (6, .ref v6), (7, .ref v7), (8, .int v8), (9, .int v9), (10, .ref v10), (12, .int v12), (14, .int v14), (15, .int v15), (16, .int v16), (17, .int v17)] [.int s1, .ref s0] h) hf (fun v8 v9 v10 v12 v14 v15 v16 v17 s0 s1 h hf => ?_) (fun j337 hj337 hf => ?_)
                  · refine z_iconst (1 : Int32) dL_law_337 (by decide) ?_
                    refine z_goto 342 dL_law_338 (by decide) ?_
                    exact Z.sub [0, 1, 2, 3, 4, 5, 6, 7, 8, 9, 10, 11, 12, 13] rfl (hj342 v8 v9 v10 v12 v14 v15 v16 v17 s0 s1 (1 : Int32) h hf)
                  · refine z_if_eq 337 dL_law_329 (by decide) hf (fun hf => ?_) (fun hf => ?_)
                    · exact Z.sub [1, 2, 3, 4, 5, 6, 7, 8, 9, 10, 11, 12, 13, 0] rfl (hj337 v8 v9 v10 v12 v14 v15 v16 s0 v5 s0 y43.2 hf)
                    · refine z_iload 0 dL_law_332 rfl ?_
                      refine z_if_ne 341 dL_law_334 (by decide) hf (fun hf => ?_) (fun hf => ?_)
                      · exact Z.sub [1, 2, 3, 4, 5, 6, 7, 8, 9, 10, 11, 12, 13, 0] rfl (hj337 v8 v9 v10 v12 v14 v15 v16 s0 v5 s0 y43.2 hf)
                      · refine z_iconst (0 : Int32) dL_law_341 (by decide) ?_
                        exact Z.sub [1, 2, 3, 4, 5, 6, 7, 8, 9, 10, 11, 12, 13, 0] rfl (hj342 v8 v9 v10 v12 v14 v15 v16 s0 v5 s0 (0 : Int32) y43.2 hf)
              · refine z_if_eq 304 dL_law_297 (by decide) hf (fun hf => ?_) (fun hf => ?_)
                · refine z_aload 5 dL_law_304 rfl ?_
                  refine z_getA dL_law_306 zc12 (by decide) wf_L_164 hf fun x39 hf => ?_
                  refine z_aload 5 dL_law_309 rfl ?_
                  refine z_getI dL_law_311 zc12 (by decide) wf_L_288 hf fun x40 hf => ?_
                  refine z_aaload dL_law_314 hf fun x41 hf => ?_
                  refine z_alen dL_law_315 hf fun x42 hf => ?_
                  exact Z.sub [1, 2, 3, 4, 5, 6, 7, 8, 9, 10, 11, 12, 0] rfl (hj316 v8 v9 v10 v12 v14 v15 s0 x42 y38.2 hf)
                · refine z_iconst (0 : Int32) dL_law_300 (by decide) ?_
                  refine z_goto 316 dL_law_301 (by decide) ?_
                  exact Z.sub [1, 2, 3, 4, 5, 6, 7, 8, 9, 10, 11, 12, 0] rfl (hj316 v8 v9 v10 v12 v14 v15 s0 (0 : Int32) y38.2 hf)
            · refine z_if_eq 289 dL_law_274 (by decide) hf (fun hf => ?_) (fun hf => ?_)
              · refine z_iconst (0 : Int32) dL_law_289 (by decide) ?_
                exact Z.sub [1, 2, 3, 4, 5, 6, 7, 8, 9, 10, 11, 0] rfl (hj290 v8 v9 v10 v12 v14 s0 (0 : Int32) h hf)
              · refine z_aload 5 dL_law_277 rfl ?_
                refine z_getA dL_law_279 zc12 (by decide) wf_L_164 hf fun x35 hf => ?_
                refine z_iload 11 dL_law_282 rfl ?_
                refine z_aaload dL_law_284 hf fun x36 hf => ?_
                refine z_alen dL_law_285 hf fun x37 hf => ?_
                refine z_goto 290 dL_law_286 (by decide) ?_
                exact Z.sub [1, 2, 3, 4, 5, 6, 7, 8, 9, 10, 11, 0] rfl (hj290 v8 v9 v10 v12 v14 s0 x37 h hf)
          · refine z_icmp_ge 269 dL_law_262 (by decide) hf (fun hf => ?_) (fun hf => ?_)
            · refine z_iconst (0 : Int32) dL_law_269 (by decide) ?_
              exact Z.sub [1, 2, 3, 4, 5, 6, 7, 8, 9, 10, 0] rfl (hj270 v8 v9 v10 v12 y34.1 (0 : Int32) y34.2 hf)
            · refine z_iconst (1 : Int32) dL_law_265 (by decide) ?_
              refine z_goto 270 dL_law_266 (by decide) ?_
              exact Z.sub [1, 2, 3, 4, 5, 6, 7, 8, 9, 10, 0] rfl (hj270 v8 v9 v10 v12 y34.1 (1 : Int32) y34.2 hf)
        · refine zjn_elim (P := fun (j247 : Int32 → Int32 → Nat → Int32 → Int32 → Nat → Int32 → zH → Option ((Int32 ⊕ Nat) × zH)) => ∀ (v8 : Int32) (v9 : Int32) (v10 : Nat) (v12 : Int32) (v13 : Int32) (s0 : Nat) (s1 : Int32) (h : zH), j247 v8 v9 v10 v12 v13 s0 s1 h = some w → Z Γ m_L_law d h0 (zoTI w) 247 [(0, .ref sb), (2, .int v2), (3, .ref v3), (5, .ref v5), (6, .ref v6), (7, .ref v7), (8, .int v8), (9, .int v9), (10, .ref v10), (12, .int v12), (13, .int v13)] [.int s1, .ref s0] h) hf (fun v8 v9 v10 v12 v13 s0 s1 h hf => ?_) (fun j247 hj247 hf => ?_)
          · refine z_iconst (1 : Int32) dL_law_247 (by decide) ?_
            refine z_goto 252 dL_law_248 (by decide) ?_
            exact Z.sub [0, 1, 2, 3, 4, 5, 6, 7, 8, 9, 10] rfl (hj252 v8 v9 v10 v12 v13 s0 s1 (1 : Int32) h hf)
          · refine z_if_eq 247 dL_law_239 (by decide) hf (fun hf => ?_) (fun hf => ?_)
            · exact Z.sub [4, 6, 7, 8, 9, 10, 11, 12, 3, 1, 0] rfl (hj247 v8 v9 y30.1 (-2000000097 : Int32) x32 v5 x32 y33.2 hf)
            · refine z_iload 0 dL_law_242 rfl ?_
              refine z_if_ne 251 dL_law_244 (by decide) hf (fun hf => ?_) (fun hf => ?_)
              · exact Z.sub [4, 6, 7, 8, 9, 10, 11, 12, 3, 1, 0] rfl (hj247 v8 v9 y30.1 (-2000000097 : Int32) x32 v5 x32 y33.2 hf)
              · refine z_iconst (0 : Int32) dL_law_251 (by decide) ?_
                exact Z.sub [4, 6, 7, 8, 9, 10, 11, 12, 3, 1, 0] rfl (hj252 v8 v9 y30.1 (-2000000097 : Int32) x32 v5 x32 (0 : Int32) y33.2 hf)
set_option maxRecDepth 4000 in
theorem zl_L_law_1024 {Γ : zG} {N d : Nat} {h0 : zH} {L : Nat} {xs : Nat → Int32} {sb : Nat} (hG : Γ.2.2.2.2 = (sb, L, xs)) (hd : 108 ≤ d) {v2 : Int32} {v3 : Nat} {v7 : Nat} {v8 : Int32} {k1 : Int32 → zH → Option ((Int32 ⊕ Nat) × zH)} {w : (Int32 ⊕ Nat) × zH}  (hk1 : ∀ (v1 : Int32) (h : zH), k1 v1 h = some w → Z Γ m_L_law d h0 (zoTI w) 1073 [(0, .ref sb), (1, .int v1), (2, .int v2), (3, .ref v3)] [] h) : ∀ (n : Nat) (v1 : Int32) (v9 : Int32) (h : zH), f_L_law_l1024 N (zKa Γ) L xs v2 v3 v7 v8 k1 n v1 v9 h = some w → Z Γ m_L_law d h0 (zoTI w) 1024 [(0, .ref sb), (1, .int v1), (2, .int v2), (3, .ref v3), (7, .ref v7), (8, .int v8), (9, .int v9)] [] h := by
  intro n
  induction n with
  | zero => intro v1 v9 h hf; cases hf
  | succ n ih =>
    intro v1 v9 h hf
    rw [f_L_law_l1024] at hf
    refine z_iload 6 dL_law_1024 rfl ?_
    refine z_bipush (8 : Int32) dL_law_1026 (by decide) ?_
    refine z_icmp_ge 1073 dL_law_1028 (by decide) hf (fun hf => ?_) (fun hf => ?_)
    · exact Z.sub [0, 1, 2, 3] rfl (hk1 v1 h hf)
    · refine z_iload 6 dL_law_1031 rfl ?_
      refine z_iload 5 dL_law_1033 rfl ?_
      refine z_icmp_ge 1073 dL_law_1035 (by decide) hf (fun hf => ?_) (fun hf => ?_)
      · exact Z.sub [0, 1, 2, 3] rfl (hk1 v1 h hf)
      · refine z_iload_n 1 dL_law_1038 rfl rfl ?_
        refine z_if_eq 1073 dL_law_1039 (by decide) hf (fun hf => ?_) (fun hf => ?_)
        · exact Z.sub [0, 1, 2, 3] rfl (hk1 v1 h hf)
        · refine z_aload_n 3 dL_law_1042 rfl rfl ?_
          refine z_cV_i (d' := d - 1) (As := []) (rest := []) dL_law_1043 lk_L_264 rfl hf (fun w1 e1 => zc_X8_undo (by omega) e1) (by omega) rfl rfl (Nat.le_of_ble_eq_true rfl) fun y153 hf => ?_
          refine zjn_elim (P := fun (j1066 : Int32 → Int32 → zH → Option ((Int32 ⊕ Nat) × zH)) => ∀ (v9 : Int32) (s0 : Int32) (h : zH), j1066 v9 s0 h = some w → Z Γ m_L_law d h0 (zoTI w) 1066 [(0, .ref sb), (2, .int v2), (3, .ref v3), (7, .ref v7), (8, .int v8), (9, .int v9)] [.int s0] h) hf (fun v9 s0 h hf => ?_) (fun j1066 hj1066 hf => ?_)
          · refine z_istore_n [(1, .int s0), (0, .ref sb), (2, .int v2), (3, .ref v3), (7, .ref v7), (8, .int v8), (9, .int v9)] dL_law_1066 rfl (by decide) rfl ?_
            refine z_iinc (v9 + (1 : Int32)) 6 [(9, .int (v9 + (1 : Int32))), (1, .int s0), (0, .ref sb), (2, .int v2), (3, .ref v3), (7, .ref v7), (8, .int v8)] dL_law_1067 rfl rfl (by decide) rfl ?_
            refine z_goto 1024 dL_law_1070 (by decide) ?_
            exact Z.sub [2, 1, 3, 4, 5, 6, 0] rfl (ih s0 (v9 + (1 : Int32)) h hf)
          · refine zjn_elim (P := fun (j1065 : Int32 → zH → Option ((Int32 ⊕ Nat) × zH)) => ∀ (v9 : Int32) (h : zH), j1065 v9 h = some w → Z Γ m_L_law d h0 (zoTI w) 1065 [(0, .ref sb), (2, .int v2), (3, .ref v3), (7, .ref v7), (8, .int v8), (9, .int v9)] [] h) hf (fun v9 h hf => ?_) (fun j1065 hj1065 hf => ?_)
            · refine z_iconst (0 : Int32) dL_law_1065 (by decide) ?_
              exact Z.sub [0, 1, 2, 3, 4, 5] rfl (hj1066 v9 (0 : Int32) h hf)
            · refine z_if_lt 1065 dL_law_1046 (by decide) hf (fun hf => ?_) (fun hf => ?_)
              · exact Z.sub [0, 2, 3, 4, 5, 6] rfl (hj1065 v9 y153.2 hf)
              · refine z_aload_n 3 dL_law_1049 rfl rfl ?_
                refine z_aload 4 dL_law_1050 rfl ?_
                refine z_iload 6 dL_law_1052 rfl ?_
                refine z_aaload dL_law_1054 hf fun x154 hf => ?_
                refine z_cS_ti (d' := d - 1) (As := [.ref v3, .ref x154]) (rest := []) dL_law_1055 lk_L_257 hf (fun w1 e1 => zc_L_agrees (by omega) e1) (by omega) rfl rfl (Nat.le_of_ble_eq_true rfl) (fun y155 x156 hf => ?_) (fun y155 k157 hf => ?_)
                · refine z_if_eq 1065 dL_law_1058 (by decide) hf (fun hf => ?_) (fun hf => ?_)
                  · exact Z.sub [0, 2, 3, 4, 5, 6] rfl (hj1065 v9 y155.2 hf)
                  · refine z_iconst (1 : Int32) dL_law_1061 (by decide) ?_
                    refine z_goto 1066 dL_law_1062 (by decide) ?_
                    exact Z.sub [0, 2, 3, 4, 5, 6] rfl (hj1066 v9 (1 : Int32) y155.2 hf)
                · exact zx_out rfl (by cases hf; rfl)
set_option maxRecDepth 4000 in
theorem zl_L_law_4 {Γ : zG} {N d : Nat} {h0 : zH} {L : Nat} {xs : Nat → Int32} {sb : Nat} (hG : Γ.2.2.2.2 = (sb, L, xs)) (hd : 108 ≤ d)   {w : (Int32 ⊕ Nat) × zH}   : ∀ (n : Nat) (v1 : Int32) (v2 : Int32) (h : zH), f_L_law_l4 N (zKa Γ) L xs n v1 v2 h = some w → Z Γ m_L_law d h0 (zoTI w) 4 [(0, .ref sb), (1, .int v1), (2, .int v2)] [] h := by
  intro n
  induction n with
  | zero => intro v1 v2 h hf; cases hf
  | succ n ih =>
    intro v1 v2 h hf
    rw [f_L_law_l4] at hf
    refine z_iload_n 2 dL_law_4 rfl rfl ?_
    refine z_aload_n 0 dL_law_5 rfl rfl ?_
    refine z_slen hG dL_law_6 ?_
    refine z_icmp_ge 1143 dL_law_7 (by decide) hf (fun hf => ?_) (fun hf => ?_)
    · refine z_iload_n 1 dL_law_1143 rfl rfl ?_
      obtain ⟨x2, hz, hf⟩ := Option.bind_eq_some_iff.mp hf
      obtain ⟨hb, rfl⟩ := zB_of hz
      exact z_zret dL_law_1144 rfl hb (by cases hf; rfl)
    · refine z_iload_n 2 dL_law_10 rfl rfl ?_
      refine z_iconst (2 : Int32) dL_law_11 (by decide) ?_
      refine z_icmp_ge 1143 dL_law_12 (by decide) hf (fun hf => ?_) (fun hf => ?_)
      · refine z_iload_n 1 dL_law_1143 rfl rfl ?_
        obtain ⟨x3, hz, hf⟩ := Option.bind_eq_some_iff.mp hf
        obtain ⟨hb, rfl⟩ := zB_of hz
        exact z_zret dL_law_1144 rfl hb (by cases hf; rfl)
      · refine z_iload_n 1 dL_law_15 rfl rfl ?_
        refine z_if_eq 1143 dL_law_16 (by decide) hf (fun hf => ?_) (fun hf => ?_)
        · refine z_iload_n 1 dL_law_1143 rfl rfl ?_
          obtain ⟨x4, hz, hf⟩ := Option.bind_eq_some_iff.mp hf
          obtain ⟨hb, rfl⟩ := zB_of hz
          exact z_zret dL_law_1144 rfl hb (by cases hf; rfl)
        · refine z_nwO dL_law_19 zc8 wc_L_14 wn_X8 wi_X8 rfl zd8 hf fun y5 hf => ?_
          refine z_dup dL_law_22 rfl ?_
          refine z_cI_v (d' := d - 1) (As := []) (rest := [.ref y5.1]) dL_law_23 lk_L_253 hf (fun w1 e1 => zc_X8_init (by omega) e1) (by omega) rfl rfl (Nat.le_of_ble_eq_true rfl) fun y6 hf => ?_
          refine z_astore_n [(3, .ref y5.1), (0, .ref sb), (1, .int v1), (2, .int v2)] dL_law_26 rfl (by decide) rfl ?_
          refine z_bipush (8 : Int32) dL_law_27 (by decide) ?_
          refine z_nwI dL_law_29 wa_I hf fun y7 hf => ?_
          refine z_astore [(4, .ref y7.1), (3, .ref y5.1), (0, .ref sb), (1, .int v1), (2, .int v2)] dL_law_31 (by decide) rfl ?_
          refine z_nwO dL_law_33 zc11 wc_L_125 wn_X11 wi_X11 rfl zd11 hf fun y8 hf => ?_
          refine z_dup dL_law_36 rfl ?_
          refine z_aload_n 2 dL_law_37 rfl rfl ?_
          refine z_iload_n 4 dL_law_38 rfl rfl ?_
          refine z_sldB hG dL_law_39 hf fun x9 hf => ?_
          refine z_cI_v (d' := d - 1) (As := [.int x9]) (rest := [.ref y8.1]) dL_law_40 lk_L_254 hf (fun w1 e1 => zc_X11_init (by omega) e1) (by omega) rfl rfl (Nat.le_of_ble_eq_true rfl) fun y10 hf => ?_
          refine z_astore [(5, .ref y8.1), (4, .ref y7.1), (3, .ref y5.1), (0, .ref sb), (1, .int v1), (2, .int v2)] dL_law_43 (by decide) rfl ?_
          refine z_aload_n 2 dL_law_45 rfl rfl ?_
          refine z_nwO dL_law_46 zc12 wc_L_142 wn_X12 wi_X12 rfl zd12 hf fun y11 hf => ?_
          refine z_dup dL_law_49 rfl ?_
          refine z_cIN_v (d' := d - 1) (As := []) (rest := [.ref y11.1, .ref y5.1]) dL_law_50 lk_L_144 hf (fun w1 e1 => zc_X12_init (by omega) e1) (by omega) rfl rfl (Nat.le_of_ble_eq_true rfl) fun y12 hf => ?_
          refine z_cS_ti (d' := d - 1) (As := [.ref y5.1, .ref y11.1]) (rest := []) dL_law_53 lk_L_257 hf (fun w1 e1 => zc_L_agrees (by omega) e1) (by omega) rfl rfl (Nat.le_of_ble_eq_true rfl) (fun y13 x14 hf => ?_) (fun y13 k15 hf => ?_)
          · refine zjn_elim (P := fun (j143 : Int32 → Nat → Nat → Nat → Int32 → zH → Option ((Int32 ⊕ Nat) × zH)) => ∀ (v2 : Int32) (v3 : Nat) (v4 : Nat) (v5 : Nat) (s0 : Int32) (h : zH), j143 v2 v3 v4 v5 s0 h = some w → Z Γ m_L_law d h0 (zoTI w) 143 [(0, .ref sb), (2, .int v2), (3, .ref v3), (4, .ref v4), (5, .ref v5)] [.int s0] h) hf (fun v2 v3 v4 v5 s0 h hf => ?_) (fun j143 hj143 hf => ?_)
            · refine z_istore_n [(1, .int s0), (0, .ref sb), (2, .int v2), (3, .ref v3), (4, .ref v4), (5, .ref v5)] dL_law_143 rfl (by decide) rfl ?_
              refine z_aload_n 3 dL_law_144 rfl rfl ?_
              refine z_aload 4 dL_law_145 rfl ?_
              refine z_aload 5 dL_law_147 rfl ?_
              refine z_bipush (6 : Int32) dL_law_149 (by decide) ?_
              refine z_cS_n (d' := d - 1) (As := [.ref v3, .ref v4, .ref v5, .int (6 : Int32)]) (rest := []) dL_law_151 lk_L_276 hf (fun w1 e1 => zc_L_randomSale (by omega) e1) (by omega) rfl rfl (Nat.le_of_ble_eq_true rfl) (fun y24 hf => ?_) (fun y24 x25 hf => ?_)
              · refine z_astoreN [(6, .null), (1, .int s0), (0, .ref sb), (2, .int v2), (3, .ref v3), (4, .ref v4), (5, .ref v5)] dL_law_154 (by decide) rfl ?_
                refine z_aloadN 0 dL_law_156 rfl ?_
                refine z_ifnonnullN dL_law_158 ?_
                refine z_iconst (0 : Int32) dL_law_161 (by decide) ?_
                exact z_zret dL_law_162 rfl (Or.inl rfl) (by cases hf; rfl)
              · refine z_astore [(6, .ref x25), (1, .int s0), (0, .ref sb), (2, .int v2), (3, .ref v3), (4, .ref v4), (5, .ref v5)] dL_law_154 (by decide) rfl ?_
                refine z_aload 0 dL_law_156 rfl ?_
                refine z_ifnonnull 163 dL_law_158 (by decide) ?_
                refine z_iload_n 1 dL_law_163 rfl rfl ?_
                refine zjn_elim (P := fun (j181 : Int32 → Nat → Nat → Nat → Int32 → zH → Option ((Int32 ⊕ Nat) × zH)) => ∀ (v2 : Int32) (v3 : Nat) (v5 : Nat) (v6 : Nat) (s0 : Int32) (h : zH), j181 v2 v3 v5 v6 s0 h = some w → Z Γ m_L_law d h0 (zoTI w) 181 [(0, .ref sb), (2, .int v2), (3, .ref v3), (5, .ref v5), (6, .ref v6)] [.int s0] h) hf (fun v2 v3 v5 v6 s0 h hf => ?_) (fun j181 hj181 hf => ?_)
                · refine z_istore_n [(1, .int s0), (0, .ref sb), (2, .int v2), (3, .ref v3), (5, .ref v5), (6, .ref v6)] dL_law_181 rfl (by decide) rfl ?_
                  refine z_bipush (9 : Int32) dL_law_182 (by decide) ?_
                  refine z_nwQ 7 rfl dL_law_184 wc_L_142 wo_7 hf fun y29 hf => ?_
                  refine z_astore [(7, .ref y29.1), (1, .int s0), (0, .ref sb), (2, .int v2), (3, .ref v3), (5, .ref v5), (6, .ref v6)] dL_law_187 (by decide) rfl ?_
                  refine z_iconst (0 : Int32) dL_law_189 (by decide) ?_
                  refine z_istore [(8, .int (0 : Int32)), (7, .ref y29.1), (1, .int s0), (0, .ref sb), (2, .int v2), (3, .ref v3), (5, .ref v5), (6, .ref v6)] dL_law_190 (by decide) rfl ?_
                  refine z_iconst (0 : Int32) dL_law_192 (by decide) ?_
                  refine z_istore [(9, .int (0 : Int32)), (8, .int (0 : Int32)), (7, .ref y29.1), (1, .int s0), (0, .ref sb), (2, .int v2), (3, .ref v3), (5, .ref v5), (6, .ref v6)] dL_law_193 (by decide) rfl ?_
                  refine Z.sub [4, 3, 5, 6, 7, 8, 2, 1, 0] rfl (zl_L_law_195 hG hd (fun u150 u151 h152 hf => ?_) N s0 (0 : Int32) (0 : Int32) y29.2 hf)
                  · refine z_iconst (0 : Int32) dL_law_1021 (by decide) ?_
                    refine z_istore [(9, .int (0 : Int32)), (0, .ref sb), (1, .int u150), (2, .int v2), (3, .ref v3), (7, .ref y29.1), (8, .int u151)] dL_law_1022 (by decide) rfl ?_
                    refine Z.sub [1, 2, 3, 4, 5, 6, 0] rfl (zl_L_law_1024 hG hd (fun u158 h159 hf => ?_) N u150 (0 : Int32) h152 hf)
                    · refine z_iload_n 1 dL_law_1073 rfl rfl ?_
                      refine zjn_elim (P := fun (j1136 : Int32 → Int32 → zH → Option ((Int32 ⊕ Nat) × zH)) => ∀ (v2 : Int32) (s0 : Int32) (h : zH), j1136 v2 s0 h = some w → Z Γ m_L_law d h0 (zoTI w) 1136 [(0, .ref sb), (2, .int v2)] [.int s0] h) hf (fun v2 s0 h hf => ?_) (fun j1136 hj1136 hf => ?_)
                      · refine z_istore_n [(1, .int s0), (0, .ref sb), (2, .int v2)] dL_law_1136 rfl (by decide) rfl ?_
                        refine z_iinc (v2 + (1 : Int32)) 2 [(2, .int (v2 + (1 : Int32))), (1, .int s0), (0, .ref sb)] dL_law_1137 rfl rfl (by decide) rfl ?_
                        refine z_goto 4 dL_law_1140 (by decide) ?_
                        exact Z.sub [2, 1, 0] rfl (ih s0 (v2 + (1 : Int32)) h hf)
                      · refine zjn_elim (P := fun (j1135 : Int32 → zH → Option ((Int32 ⊕ Nat) × zH)) => ∀ (v2 : Int32) (h : zH), j1135 v2 h = some w → Z Γ m_L_law d h0 (zoTI w) 1135 [(0, .ref sb), (2, .int v2)] [] h) hf (fun v2 h hf => ?_) (fun j1135 hj1135 hf => ?_)
                        · refine z_iconst (0 : Int32) dL_law_1135 (by decide) ?_
                          exact Z.sub [0, 1] rfl (hj1136 v2 (0 : Int32) h hf)
                        · refine z_if_eq 1135 dL_law_1074 (by decide) hf (fun hf => ?_) (fun hf => ?_)
                          · exact Z.sub [0, 2] rfl (hj1135 v2 h159 hf)
                          · refine z_aload_n 3 dL_law_1077 rfl rfl ?_
                            refine z_iconst (1 : Int32) dL_law_1078 (by decide) ?_
                            refine z_cW_i (d' := d - 1) (As := [.ref v3, .int (1 : Int32)]) (rest := []) dL_law_1079 lk_L_19 hf (fun w1 e1 => zc_L_load (by omega) e1) (by omega) rfl rfl (Nat.le_of_ble_eq_true rfl) fun y160 hf => ?_
                            refine z_ldc (-2000000098 : Int32) dL_law_1082 wk_L_42 ?_
                            refine z_icmp_ne 1135 dL_law_1084 (by decide) hf (fun hf => ?_) (fun hf => ?_)
                            · refine z_aload_n 3 dL_law_1087 rfl rfl ?_
                              refine z_iconst (-1 : Int32) dL_law_1088 (by decide) ?_
                              refine z_iconst (-1 : Int32) dL_law_1089 (by decide) ?_
                              refine z_bipush (9 : Int32) dL_law_1090 (by decide) ?_
                              refine z_cW_i (d' := d - 1) (As := [.ref v3, .int (-1 : Int32), .int (-1 : Int32), .int (9 : Int32)]) (rest := []) dL_law_1092 lk_L_242 hf (fun w1 e1 => zc_L_card (by omega) e1) (by omega) rfl rfl (Nat.le_of_ble_eq_true rfl) fun y161 hf => ?_
                              refine z_ldc (-2000000097 : Int32) dL_law_1095 wk_L_52 ?_
                              refine z_icmp_ne 1135 dL_law_1097 (by decide) hf (fun hf => ?_) (fun hf => ?_)
                              · refine z_aload_n 3 dL_law_1100 rfl rfl ?_
                                refine z_iconst (-1 : Int32) dL_law_1101 (by decide) ?_
                                refine z_iconst (0 : Int32) dL_law_1102 (by decide) ?_
                                refine z_cW_i (d' := d - 1) (As := [.ref v3, .int (-1 : Int32), .int (0 : Int32)]) (rest := []) dL_law_1103 lk_L_302 hf (fun w1 e1 => zc_L_productOf (by omega) e1) (by omega) rfl rfl (Nat.le_of_ble_eq_true rfl) fun y162 hf => ?_
                                refine z_ldc (-2000000098 : Int32) dL_law_1106 wk_L_42 ?_
                                refine z_icmp_ne 1135 dL_law_1108 (by decide) hf (fun hf => ?_) (fun hf => ?_)
                                · refine z_aload_n 3 dL_law_1111 rfl rfl ?_
                                  refine z_iconst (-1 : Int32) dL_law_1112 (by decide) ?_
                                  refine z_cW_i (d' := d - 1) (As := [.ref v3, .int (-1 : Int32)]) (rest := []) dL_law_1113 lk_L_304 hf (fun w1 e1 => zc_L_reach (by omega) e1) (by omega) rfl rfl (Nat.le_of_ble_eq_true rfl) fun y163 hf => ?_
                                  refine z_ldc (-2000000097 : Int32) dL_law_1116 wk_L_52 ?_
                                  refine z_icmp_ne 1135 dL_law_1118 (by decide) hf (fun hf => ?_) (fun hf => ?_)
                                  · refine z_aload_n 3 dL_law_1121 rfl rfl ?_
                                    refine z_iconst (5 : Int32) dL_law_1122 (by decide) ?_
                                    refine z_cW_i (d' := d - 1) (As := [.ref v3, .int (5 : Int32)]) (rest := []) dL_law_1123 lk_L_306 hf (fun w1 e1 => zc_L_fewest (by omega) e1) (by omega) rfl rfl (Nat.le_of_ble_eq_true rfl) fun y164 hf => ?_
                                    refine z_ldc (-2000000097 : Int32) dL_law_1126 wk_L_52 ?_
                                    refine z_icmp_ne 1135 dL_law_1128 (by decide) hf (fun hf => ?_) (fun hf => ?_)
                                    · refine z_iconst (1 : Int32) dL_law_1131 (by decide) ?_
                                      refine z_goto 1136 dL_law_1132 (by decide) ?_
                                      exact Z.sub [0, 2] rfl (hj1136 v2 (1 : Int32) y164.2 hf)
                                    · exact Z.sub [0, 2] rfl (hj1135 v2 y164.2 hf)
                                  · exact Z.sub [0, 2] rfl (hj1135 v2 y163.2 hf)
                                · exact Z.sub [0, 2] rfl (hj1135 v2 y162.2 hf)
                              · exact Z.sub [0, 2] rfl (hj1135 v2 y161.2 hf)
                            · exact Z.sub [0, 2] rfl (hj1135 v2 y160.2 hf)
                · refine zjn_elim (P := fun (j180 : Int32 → Nat → Nat → Nat → zH → Option ((Int32 ⊕ Nat) × zH)) => ∀ (v2 : Int32) (v3 : Nat) (v5 : Nat) (v6 : Nat) (h : zH), j180 v2 v3 v5 v6 h = some w → Z Γ m_L_law d h0 (zoTI w) 180 [(0, .ref sb), (2, .int v2), (3, .ref v3), (5, .ref v5), (6, .ref v6)] [] h) hf (fun v2 v3 v5 v6 h hf => ?_) (fun j180 hj180 hf => ?_)
                  · refine z_iconst (0 : Int32) dL_law_180 (by decide) ?_
                    exact Z.sub [0, 1, 2, 3, 4] rfl (hj181 v2 v3 v5 v6 (0 : Int32) h hf)
                  · refine z_if_eq 180 dL_law_164 (by decide) hf (fun hf => ?_) (fun hf => ?_)
                    · exact Z.sub [2, 3, 4, 6, 0] rfl (hj180 v2 v3 v5 x25 y24.2 hf)
                    · refine z_aload_n 4 dL_law_167 rfl rfl ?_
                      refine z_aload 0 dL_law_168 rfl ?_
                      refine z_cS_ti (d' := d - 1) (As := [.ref v3, .ref x25]) (rest := []) dL_law_170 lk_L_257 hf (fun w1 e1 => zc_L_agrees (by omega) e1) (by omega) rfl rfl (Nat.le_of_ble_eq_true rfl) (fun y26 x27 hf => ?_) (fun y26 k28 hf => ?_)
                      · refine z_if_eq 180 dL_law_173 (by decide) hf (fun hf => ?_) (fun hf => ?_)
                        · exact Z.sub [2, 3, 4, 6, 0] rfl (hj180 v2 v3 v5 x25 y26.2 hf)
                        · refine z_iconst (1 : Int32) dL_law_176 (by decide) ?_
                          refine z_goto 181 dL_law_177 (by decide) ?_
                          exact Z.sub [2, 3, 4, 6, 0] rfl (hj181 v2 v3 v5 x25 (1 : Int32) y26.2 hf)
                      · exact zx_out rfl (by cases hf; rfl)
            · refine zjn_elim (P := fun (j142 : Int32 → Nat → Nat → Nat → zH → Option ((Int32 ⊕ Nat) × zH)) => ∀ (v2 : Int32) (v3 : Nat) (v4 : Nat) (v5 : Nat) (h : zH), j142 v2 v3 v4 v5 h = some w → Z Γ m_L_law d h0 (zoTI w) 142 [(0, .ref sb), (2, .int v2), (3, .ref v3), (4, .ref v4), (5, .ref v5)] [] h) hf (fun v2 v3 v4 v5 h hf => ?_) (fun j142 hj142 hf => ?_)
              · refine z_iconst (0 : Int32) dL_law_142 (by decide) ?_
                exact Z.sub [0, 1, 2, 3, 4] rfl (hj143 v2 v3 v4 v5 (0 : Int32) h hf)
              · refine z_if_eq 142 dL_law_56 (by decide) hf (fun hf => ?_) (fun hf => ?_)
                · exact Z.sub [3, 5, 2, 1, 0] rfl (hj142 v2 y5.1 y7.1 y8.1 y13.2 hf)
                · refine z_aload_n 2 dL_law_59 rfl rfl ?_
                  refine z_cV_i (d' := d - 1) (As := []) (rest := []) dL_law_60 lk_L_261 rfl hf (fun w1 e1 => zc_X8_errorOffset (by omega) e1) (by omega) rfl rfl (Nat.le_of_ble_eq_true rfl) fun y16 hf => ?_
                  refine z_iconst (-1 : Int32) dL_law_63 (by decide) ?_
                  refine z_icmp_ne 142 dL_law_64 (by decide) hf (fun hf => ?_) (fun hf => ?_)
                  · refine z_aload_n 2 dL_law_67 rfl rfl ?_
                    refine z_cV_i (d' := d - 1) (As := []) (rest := []) dL_law_68 lk_L_264 rfl hf (fun w1 e1 => zc_X8_undo (by omega) e1) (by omega) rfl rfl (Nat.le_of_ble_eq_true rfl) fun y17 hf => ?_
                    refine z_iconst (-1 : Int32) dL_law_71 (by decide) ?_
                    refine z_icmp_ne 142 dL_law_72 (by decide) hf (fun hf => ?_) (fun hf => ?_)
                    · refine z_aload_n 2 dL_law_75 rfl rfl ?_
                      refine z_iconst (0 : Int32) dL_law_76 (by decide) ?_
                      refine z_cW_i (d' := d - 1) (As := [.ref y5.1, .int (0 : Int32)]) (rest := []) dL_law_77 lk_L_267 hf (fun w1 e1 => zc_L_play (by omega) e1) (by omega) rfl rfl (Nat.le_of_ble_eq_true rfl) fun y18 hf => ?_
                      refine z_ldc (-2000000099 : Int32) dL_law_80 wk_L_99 ?_
                      refine z_icmp_ne 142 dL_law_82 (by decide) hf (fun hf => ?_) (fun hf => ?_)
                      · refine z_aload_n 2 dL_law_85 rfl rfl ?_
                        refine z_cW_i (d' := d - 1) (As := [.ref y5.1]) (rest := []) dL_law_86 lk_L_269 hf (fun w1 e1 => zc_L_pass (by omega) e1) (by omega) rfl rfl (Nat.le_of_ble_eq_true rfl) fun y19 hf => ?_
                        refine z_ldc (-2000000099 : Int32) dL_law_89 wk_L_99 ?_
                        refine z_icmp_ne 142 dL_law_91 (by decide) hf (fun hf => ?_) (fun hf => ?_)
                        · refine z_aload_n 2 dL_law_94 rfl rfl ?_
                          refine z_iconst (0 : Int32) dL_law_95 (by decide) ?_
                          refine z_bipush (12 : Int32) dL_law_96 (by decide) ?_
                          refine z_iconst (1 : Int32) dL_law_98 (by decide) ?_
                          refine z_cW_i (d' := d - 1) (As := [.ref y5.1, .int (0 : Int32), .int (12 : Int32), .int (1 : Int32)]) (rest := []) dL_law_99 lk_L_272 hf (fun w1 e1 => zc_L_give (by omega) e1) (by omega) rfl rfl (Nat.le_of_ble_eq_true rfl) fun y20 hf => ?_
                          refine z_ldc (-2000000097 : Int32) dL_law_102 wk_L_52 ?_
                          refine z_icmp_ne 142 dL_law_104 (by decide) hf (fun hf => ?_) (fun hf => ?_)
                          · refine z_aload_n 2 dL_law_107 rfl rfl ?_
                            refine z_bipush (12 : Int32) dL_law_108 (by decide) ?_
                            refine z_cW_i (d' := d - 1) (As := [.ref y5.1, .int (12 : Int32)]) (rest := []) dL_law_110 lk_L_274 hf (fun w1 e1 => zc_L_order (by omega) e1) (by omega) rfl rfl (Nat.le_of_ble_eq_true rfl) fun y21 hf => ?_
                            refine z_iconst (1 : Int32) dL_law_113 (by decide) ?_
                            refine z_icmp_ne 142 dL_law_114 (by decide) hf (fun hf => ?_) (fun hf => ?_)
                            · refine z_aload_n 2 dL_law_117 rfl rfl ?_
                              refine z_bipush (21 : Int32) dL_law_118 (by decide) ?_
                              refine z_cW_i (d' := d - 1) (As := [.ref y5.1, .int (21 : Int32)]) (rest := []) dL_law_120 lk_L_274 hf (fun w1 e1 => zc_L_order (by omega) e1) (by omega) rfl rfl (Nat.le_of_ble_eq_true rfl) fun y22 hf => ?_
                              refine z_iconst (2 : Int32) dL_law_123 (by decide) ?_
                              refine z_icmp_ne 142 dL_law_124 (by decide) hf (fun hf => ?_) (fun hf => ?_)
                              · refine z_aload_n 2 dL_law_127 rfl rfl ?_
                                refine z_bipush (11 : Int32) dL_law_128 (by decide) ?_
                                refine z_cW_i (d' := d - 1) (As := [.ref y5.1, .int (11 : Int32)]) (rest := []) dL_law_130 lk_L_274 hf (fun w1 e1 => zc_L_order (by omega) e1) (by omega) rfl rfl (Nat.le_of_ble_eq_true rfl) fun y23 hf => ?_
                                refine z_ldc (-2000000098 : Int32) dL_law_133 wk_L_42 ?_
                                refine z_icmp_ne 142 dL_law_135 (by decide) hf (fun hf => ?_) (fun hf => ?_)
                                · refine z_iconst (1 : Int32) dL_law_138 (by decide) ?_
                                  refine z_goto 143 dL_law_139 (by decide) ?_
                                  exact Z.sub [3, 5, 2, 1, 0] rfl (hj143 v2 y5.1 y7.1 y8.1 (1 : Int32) y23.2 hf)
                                · exact Z.sub [3, 5, 2, 1, 0] rfl (hj142 v2 y5.1 y7.1 y8.1 y23.2 hf)
                              · exact Z.sub [3, 5, 2, 1, 0] rfl (hj142 v2 y5.1 y7.1 y8.1 y22.2 hf)
                            · exact Z.sub [3, 5, 2, 1, 0] rfl (hj142 v2 y5.1 y7.1 y8.1 y21.2 hf)
                          · exact Z.sub [3, 5, 2, 1, 0] rfl (hj142 v2 y5.1 y7.1 y8.1 y20.2 hf)
                        · exact Z.sub [3, 5, 2, 1, 0] rfl (hj142 v2 y5.1 y7.1 y8.1 y19.2 hf)
                      · exact Z.sub [3, 5, 2, 1, 0] rfl (hj142 v2 y5.1 y7.1 y8.1 y18.2 hf)
                    · exact Z.sub [3, 5, 2, 1, 0] rfl (hj142 v2 y5.1 y7.1 y8.1 y17.2 hf)
                  · exact Z.sub [3, 5, 2, 1, 0] rfl (hj142 v2 y5.1 y7.1 y8.1 y16.2 hf)
          · exact zx_out rfl (by cases hf; rfl)
set_option maxRecDepth 4000 in
theorem zw_L_law {Γ : zG} {N d : Nat} {h0 : zH} {L : Nat} {xs : Nat → Int32} {sb : Nat} (hG : Γ.2.2.2.2 = (sb, L, xs)) (hd : 108 ≤ d) {h : zH} {w : (Int32 ⊕ Nat) × zH} (hf : f_L_law N (zKa Γ) L xs h = some w) : Z Γ m_L_law d h0 (zoTI w) 0 [(0, .ref sb)] [] h := by
  unfold f_L_law at hf
  refine z_iconst (1 : Int32) dL_law_0 (by decide) ?_
  refine z_istore_n [(1, .int (1 : Int32)), (0, .ref sb)] dL_law_1 rfl (by decide) rfl ?_
  refine z_iconst (0 : Int32) dL_law_2 (by decide) ?_
  refine z_istore_n [(2, .int (0 : Int32)), (1, .int (1 : Int32)), (0, .ref sb)] dL_law_3 rfl (by decide) rfl ?_
  refine Z.sub [2, 1, 0] rfl (zl_L_law_4 hG hd  N (1 : Int32) (0 : Int32) h hf)

set_option maxRecDepth 4000 in
theorem zc_J6_bitCount_0f7a4 {Γ : zG} {N d : Nat} (hd : 10 ≤ d) {p1 : Int32} {h : zH} {w : Int32 × zH} (hf : f_J6_bitCount_0f7a4 N p1 h = some w) : Zm Γ m_J6_bitCount_0f7a4 d [.int p1] h (zoI w) := by
  unfold f_J6_bitCount_0f7a4 at hf
  refine z_meth rfl (plainFor_of_name (by decide +kernel)) (by simp [lg_sl, Value.category, zml, m_J6_bitCount_0f7a4]) ?_
  refine z_iload_n 0 dJ6_bitCount_0f7a4_0 rfl rfl ?_
  refine z_iload_n 0 dJ6_bitCount_0f7a4_1 rfl rfl ?_
  refine z_iconst (1 : Int32) dJ6_bitCount_0f7a4_2 (by decide) ?_
  refine z_iushr dJ6_bitCount_0f7a4_3 ?_
  refine z_ldcw (1431655765 : Int32) dJ6_bitCount_0f7a4_4 wk_J6_265 ?_
  refine z_iand dJ6_bitCount_0f7a4_7 ?_
  refine z_isub dJ6_bitCount_0f7a4_8 ?_
  refine z_istore_n [(0, .int (p1 - ((p1.toUInt32 >>> ((1 : Int32).toUInt32 &&& Int32.toUInt32 31)).toInt32 &&& (1431655765 : Int32))))] dJ6_bitCount_0f7a4_9 rfl (by decide) rfl ?_
  refine z_iload_n 0 dJ6_bitCount_0f7a4_10 rfl rfl ?_
  refine z_ldcw (858993459 : Int32) dJ6_bitCount_0f7a4_11 wk_J6_266 ?_
  refine z_iand dJ6_bitCount_0f7a4_14 ?_
  refine z_iload_n 0 dJ6_bitCount_0f7a4_15 rfl rfl ?_
  refine z_iconst (2 : Int32) dJ6_bitCount_0f7a4_16 (by decide) ?_
  refine z_iushr dJ6_bitCount_0f7a4_17 ?_
  refine z_ldcw (858993459 : Int32) dJ6_bitCount_0f7a4_18 wk_J6_266 ?_
  refine z_iand dJ6_bitCount_0f7a4_21 ?_
  refine z_iadd dJ6_bitCount_0f7a4_22 ?_
  refine z_istore_n [(0, .int (((p1 - ((p1.toUInt32 >>> ((1 : Int32).toUInt32 &&& Int32.toUInt32 31)).toInt32 &&& (1431655765 : Int32))) &&& (858993459 : Int32)) + (((p1 - ((p1.toUInt32 >>> ((1 : Int32).toUInt32 &&& Int32.toUInt32 31)).toInt32 &&& (1431655765 : Int32))).toUInt32 >>> ((2 : Int32).toUInt32 &&& Int32.toUInt32 31)).toInt32 &&& (858993459 : Int32))))] dJ6_bitCount_0f7a4_23 rfl (by decide) rfl ?_
  refine z_iload_n 0 dJ6_bitCount_0f7a4_24 rfl rfl ?_
  refine z_iload_n 0 dJ6_bitCount_0f7a4_25 rfl rfl ?_
  refine z_iconst (4 : Int32) dJ6_bitCount_0f7a4_26 (by decide) ?_
  refine z_iushr dJ6_bitCount_0f7a4_27 ?_
  refine z_iadd dJ6_bitCount_0f7a4_28 ?_
  refine z_ldcw (252645135 : Int32) dJ6_bitCount_0f7a4_29 wk_J6_267 ?_
  refine z_iand dJ6_bitCount_0f7a4_32 ?_
  refine z_istore_n [(0, .int (((((p1 - ((p1.toUInt32 >>> ((1 : Int32).toUInt32 &&& Int32.toUInt32 31)).toInt32 &&& (1431655765 : Int32))) &&& (858993459 : Int32)) + (((p1 - ((p1.toUInt32 >>> ((1 : Int32).toUInt32 &&& Int32.toUInt32 31)).toInt32 &&& (1431655765 : Int32))).toUInt32 >>> ((2 : Int32).toUInt32 &&& Int32.toUInt32 31)).toInt32 &&& (858993459 : Int32))) + ((((p1 - ((p1.toUInt32 >>> ((1 : Int32).toUInt32 &&& Int32.toUInt32 31)).toInt32 &&& (1431655765 : Int32))) &&& (858993459 : Int32)) + (((p1 - ((p1.toUInt32 >>> ((1 : Int32).toUInt32 &&& Int32.toUInt32 31)).toInt32 &&& (1431655765 : Int32))).toUInt32 >>> ((2 : Int32).toUInt32 &&& Int32.toUInt32 31)).toInt32 &&& (858993459 : Int32))).toUInt32 >>> ((4 : Int32).toUInt32 &&& Int32.toUInt32 31)).toInt32) &&& (252645135 : Int32)))] dJ6_bitCount_0f7a4_33 rfl (by decide) rfl ?_
  refine z_iload_n 0 dJ6_bitCount_0f7a4_34 rfl rfl ?_
  refine z_iload_n 0 dJ6_bitCount_0f7a4_35 rfl rfl ?_
  refine z_bipush (8 : Int32) dJ6_bitCount_0f7a4_36 (by decide) ?_
  refine z_iushr dJ6_bitCount_0f7a4_38 ?_
  refine z_iadd dJ6_bitCount_0f7a4_39 ?_
  refine z_istore_n [(0, .int ((((((p1 - ((p1.toUInt32 >>> ((1 : Int32).toUInt32 &&& Int32.toUInt32 31)).toInt32 &&& (1431655765 : Int32))) &&& (858993459 : Int32)) + (((p1 - ((p1.toUInt32 >>> ((1 : Int32).toUInt32 &&& Int32.toUInt32 31)).toInt32 &&& (1431655765 : Int32))).toUInt32 >>> ((2 : Int32).toUInt32 &&& Int32.toUInt32 31)).toInt32 &&& (858993459 : Int32))) + ((((p1 - ((p1.toUInt32 >>> ((1 : Int32).toUInt32 &&& Int32.toUInt32 31)).toInt32 &&& (1431655765 : Int32))) &&& (858993459 : Int32)) + (((p1 - ((p1.toUInt32 >>> ((1 : Int32).toUInt32 &&& Int32.toUInt32 31)).toInt32 &&& (1431655765 : Int32))).toUInt32 >>> ((2 : Int32).toUInt32 &&& Int32.toUInt32 31)).toInt32 &&& (858993459 : Int32))).toUInt32 >>> ((4 : Int32).toUInt32 &&& Int32.toUInt32 31)).toInt32) &&& (252645135 : Int32)) + ((((((p1 - ((p1.toUInt32 >>> ((1 : Int32).toUInt32 &&& Int32.toUInt32 31)).toInt32 &&& (1431655765 : Int32))) &&& (858993459 : Int32)) + (((p1 - ((p1.toUInt32 >>> ((1 : Int32).toUInt32 &&& Int32.toUInt32 31)).toInt32 &&& (1431655765 : Int32))).toUInt32 >>> ((2 : Int32).toUInt32 &&& Int32.toUInt32 31)).toInt32 &&& (858993459 : Int32))) + ((((p1 - ((p1.toUInt32 >>> ((1 : Int32).toUInt32 &&& Int32.toUInt32 31)).toInt32 &&& (1431655765 : Int32))) &&& (858993459 : Int32)) + (((p1 - ((p1.toUInt32 >>> ((1 : Int32).toUInt32 &&& Int32.toUInt32 31)).toInt32 &&& (1431655765 : Int32))).toUInt32 >>> ((2 : Int32).toUInt32 &&& Int32.toUInt32 31)).toInt32 &&& (858993459 : Int32))).toUInt32 >>> ((4 : Int32).toUInt32 &&& Int32.toUInt32 31)).toInt32) &&& (252645135 : Int32)).toUInt32 >>> ((8 : Int32).toUInt32 &&& Int32.toUInt32 31)).toInt32))] dJ6_bitCount_0f7a4_40 rfl (by decide) rfl ?_
  refine z_iload_n 0 dJ6_bitCount_0f7a4_41 rfl rfl ?_
  refine z_iload_n 0 dJ6_bitCount_0f7a4_42 rfl rfl ?_
  refine z_bipush (16 : Int32) dJ6_bitCount_0f7a4_43 (by decide) ?_
  refine z_iushr dJ6_bitCount_0f7a4_45 ?_
  refine z_iadd dJ6_bitCount_0f7a4_46 ?_
  refine z_istore_n [(0, .int (((((((p1 - ((p1.toUInt32 >>> ((1 : Int32).toUInt32 &&& Int32.toUInt32 31)).toInt32 &&& (1431655765 : Int32))) &&& (858993459 : Int32)) + (((p1 - ((p1.toUInt32 >>> ((1 : Int32).toUInt32 &&& Int32.toUInt32 31)).toInt32 &&& (1431655765 : Int32))).toUInt32 >>> ((2 : Int32).toUInt32 &&& Int32.toUInt32 31)).toInt32 &&& (858993459 : Int32))) + ((((p1 - ((p1.toUInt32 >>> ((1 : Int32).toUInt32 &&& Int32.toUInt32 31)).toInt32 &&& (1431655765 : Int32))) &&& (858993459 : Int32)) + (((p1 - ((p1.toUInt32 >>> ((1 : Int32).toUInt32 &&& Int32.toUInt32 31)).toInt32 &&& (1431655765 : Int32))).toUInt32 >>> ((2 : Int32).toUInt32 &&& Int32.toUInt32 31)).toInt32 &&& (858993459 : Int32))).toUInt32 >>> ((4 : Int32).toUInt32 &&& Int32.toUInt32 31)).toInt32) &&& (252645135 : Int32)) + ((((((p1 - ((p1.toUInt32 >>> ((1 : Int32).toUInt32 &&& Int32.toUInt32 31)).toInt32 &&& (1431655765 : Int32))) &&& (858993459 : Int32)) + (((p1 - ((p1.toUInt32 >>> ((1 : Int32).toUInt32 &&& Int32.toUInt32 31)).toInt32 &&& (1431655765 : Int32))).toUInt32 >>> ((2 : Int32).toUInt32 &&& Int32.toUInt32 31)).toInt32 &&& (858993459 : Int32))) + ((((p1 - ((p1.toUInt32 >>> ((1 : Int32).toUInt32 &&& Int32.toUInt32 31)).toInt32 &&& (1431655765 : Int32))) &&& (858993459 : Int32)) + (((p1 - ((p1.toUInt32 >>> ((1 : Int32).toUInt32 &&& Int32.toUInt32 31)).toInt32 &&& (1431655765 : Int32))).toUInt32 >>> ((2 : Int32).toUInt32 &&& Int32.toUInt32 31)).toInt32 &&& (858993459 : Int32))).toUInt32 >>> ((4 : Int32).toUInt32 &&& Int32.toUInt32 31)).toInt32) &&& (252645135 : Int32)).toUInt32 >>> ((8 : Int32).toUInt32 &&& Int32.toUInt32 31)).toInt32) + (((((((p1 - ((p1.toUInt32 >>> ((1 : Int32).toUInt32 &&& Int32.toUInt32 31)).toInt32 &&& (1431655765 : Int32))) &&& (858993459 : Int32)) + (((p1 - ((p1.toUInt32 >>> ((1 : Int32).toUInt32 &&& Int32.toUInt32 31)).toInt32 &&& (1431655765 : Int32))).toUInt32 >>> ((2 : Int32).toUInt32 &&& Int32.toUInt32 31)).toInt32 &&& (858993459 : Int32))) + ((((p1 - ((p1.toUInt32 >>> ((1 : Int32).toUInt32 &&& Int32.toUInt32 31)).toInt32 &&& (1431655765 : Int32))) &&& (858993459 : Int32)) + (((p1 - ((p1.toUInt32 >>> ((1 : Int32).toUInt32 &&& Int32.toUInt32 31)).toInt32 &&& (1431655765 : Int32))).toUInt32 >>> ((2 : Int32).toUInt32 &&& Int32.toUInt32 31)).toInt32 &&& (858993459 : Int32))).toUInt32 >>> ((4 : Int32).toUInt32 &&& Int32.toUInt32 31)).toInt32) &&& (252645135 : Int32)) + ((((((p1 - ((p1.toUInt32 >>> ((1 : Int32).toUInt32 &&& Int32.toUInt32 31)).toInt32 &&& (1431655765 : Int32))) &&& (858993459 : Int32)) + (((p1 - ((p1.toUInt32 >>> ((1 : Int32).toUInt32 &&& Int32.toUInt32 31)).toInt32 &&& (1431655765 : Int32))).toUInt32 >>> ((2 : Int32).toUInt32 &&& Int32.toUInt32 31)).toInt32 &&& (858993459 : Int32))) + ((((p1 - ((p1.toUInt32 >>> ((1 : Int32).toUInt32 &&& Int32.toUInt32 31)).toInt32 &&& (1431655765 : Int32))) &&& (858993459 : Int32)) + (((p1 - ((p1.toUInt32 >>> ((1 : Int32).toUInt32 &&& Int32.toUInt32 31)).toInt32 &&& (1431655765 : Int32))).toUInt32 >>> ((2 : Int32).toUInt32 &&& Int32.toUInt32 31)).toInt32 &&& (858993459 : Int32))).toUInt32 >>> ((4 : Int32).toUInt32 &&& Int32.toUInt32 31)).toInt32) &&& (252645135 : Int32)).toUInt32 >>> ((8 : Int32).toUInt32 &&& Int32.toUInt32 31)).toInt32).toUInt32 >>> ((16 : Int32).toUInt32 &&& Int32.toUInt32 31)).toInt32))] dJ6_bitCount_0f7a4_47 rfl (by decide) rfl ?_
  refine z_iload_n 0 dJ6_bitCount_0f7a4_48 rfl rfl ?_
  refine z_bipush (63 : Int32) dJ6_bitCount_0f7a4_49 (by decide) ?_
  refine z_iand dJ6_bitCount_0f7a4_51 ?_
  exact z_iret dJ6_bitCount_0f7a4_52 rfl (by cases hf; rfl)
set_option maxRecDepth 4000 in
theorem zl_X2_init_26 {Γ : zG} {N d : Nat} {h0 : zH} (hd : 11 ≤ d) {v0 : Nat}  {w : zH}   : ∀ (n : Nat) (v1 : Int32) (v2 : Int32) (h : zH), f_X2_init_l26 N v0 n v1 v2 h = some w → Z Γ m_X2_init d h0 (zoV w) 26 [(0, .ref v0), (1, .int v1), (2, .int v2)] [] h := by
  intro n
  induction n with
  | zero => intro v1 v2 h hf; cases hf
  | succ n ih =>
    intro v1 v2 h hf
    rw [f_X2_init_l26] at hf
    refine z_iload_n 2 dX2_init_26 rfl rfl ?_
    refine z_sipush (625 : Int32) dX2_init_27 (by decide) ?_
    refine z_icmp_ge 181 dX2_init_30 (by decide) hf (fun hf => ?_) (fun hf => ?_)
    · exact z_vret dX2_init_181 rfl (by cases hf; rfl)
    · refine z_iload_n 1 dX2_init_33 rfl rfl ?_
      refine z_bipush (120 : Int32) dX2_init_34 (by decide) ?_
      refine z_icmp_ge 181 dX2_init_36 (by decide) hf (fun hf => ?_) (fun hf => ?_)
      · exact z_vret dX2_init_181 rfl (by cases hf; rfl)
      · refine z_iconst (4 : Int32) dX2_init_39 (by decide) ?_
        refine z_iload_n 2 dX2_init_40 rfl rfl ?_
        refine z_bipush (125 : Int32) dX2_init_41 (by decide) ?_
        refine z_idiv dX2_init_43 hf fun x5 hf => ?_
        refine z_isub dX2_init_44 ?_
        refine z_istore_n [(3, .int ((4 : Int32) - x5)), (0, .ref v0), (1, .int v1), (2, .int v2)] dX2_init_45 rfl (by decide) rfl ?_
        refine z_iconst (4 : Int32) dX2_init_46 (by decide) ?_
        refine z_iload_n 3 dX2_init_47 rfl rfl ?_
        refine z_bipush (25 : Int32) dX2_init_48 (by decide) ?_
        refine z_idiv dX2_init_50 hf fun x6 hf => ?_
        refine z_iconst (5 : Int32) dX2_init_51 (by decide) ?_
        refine z_irem dX2_init_52 hf fun x7 hf => ?_
        refine z_isub dX2_init_53 ?_
        refine z_istore [(4, .int ((4 : Int32) - x7)), (3, .int ((4 : Int32) - x5)), (0, .ref v0), (1, .int v1), (2, .int v2)] dX2_init_54 (by decide) rfl ?_
        refine z_iconst (4 : Int32) dX2_init_56 (by decide) ?_
        refine z_iload_n 4 dX2_init_57 rfl rfl ?_
        refine z_iconst (5 : Int32) dX2_init_58 (by decide) ?_
        refine z_idiv dX2_init_59 hf fun x8 hf => ?_
        refine z_iconst (5 : Int32) dX2_init_60 (by decide) ?_
        refine z_irem dX2_init_61 hf fun x9 hf => ?_
        refine z_isub dX2_init_62 ?_
        refine z_istore [(5, .int ((4 : Int32) - x9)), (4, .int ((4 : Int32) - x7)), (3, .int ((4 : Int32) - x5)), (0, .ref v0), (1, .int v1), (2, .int v2)] dX2_init_63 (by decide) rfl ?_
        refine z_iconst (4 : Int32) dX2_init_65 (by decide) ?_
        refine z_iload_n 5 dX2_init_66 rfl rfl ?_
        refine z_iconst (5 : Int32) dX2_init_67 (by decide) ?_
        refine z_irem dX2_init_68 hf fun x10 hf => ?_
        refine z_isub dX2_init_69 ?_
        refine z_istore [(6, .int ((4 : Int32) - x10)), (5, .int ((4 : Int32) - x9)), (4, .int ((4 : Int32) - x7)), (3, .int ((4 : Int32) - x5)), (0, .ref v0), (1, .int v1), (2, .int v2)] dX2_init_70 (by decide) rfl ?_
        refine z_iconst (1 : Int32) dX2_init_72 (by decide) ?_
        refine z_iload_n 3 dX2_init_73 rfl rfl ?_
        refine z_ishl dX2_init_74 ?_
        refine z_iconst (1 : Int32) dX2_init_75 (by decide) ?_
        refine z_iload 2 dX2_init_76 rfl ?_
        refine z_ishl dX2_init_78 ?_
        refine z_ior dX2_init_79 ?_
        refine z_iconst (1 : Int32) dX2_init_80 (by decide) ?_
        refine z_iload 1 dX2_init_81 rfl ?_
        refine z_ishl dX2_init_83 ?_
        refine z_ior dX2_init_84 ?_
        refine z_iconst (1 : Int32) dX2_init_85 (by decide) ?_
        refine z_iload 0 dX2_init_86 rfl ?_
        refine z_ishl dX2_init_88 ?_
        refine z_ior dX2_init_89 ?_
        refine z_cS_i (d' := d - 1) (As := [.int (((((1 : Int32) <<< (((4 : Int32) - x5) &&& 31)) ||| ((1 : Int32) <<< (((4 : Int32) - x7) &&& 31))) ||| ((1 : Int32) <<< (((4 : Int32) - x9) &&& 31))) ||| ((1 : Int32) <<< (((4 : Int32) - x10) &&& 31)))]) (rest := []) dX2_init_90 lk_X2_18 hf (fun w1 e1 => zc_J6_bitCount_0f7a4 (by omega) e1) (by omega) rfl rfl (Nat.le_of_ble_eq_true rfl) fun y11 hf => ?_
        refine z_iconst (4 : Int32) dX2_init_93 (by decide) ?_
        refine zjn_elim (P := fun (j175 : Int32 → Int32 → zH → Option (zH)) => ∀ (v1 : Int32) (v2 : Int32) (h : zH), j175 v1 v2 h = some w → Z Γ m_X2_init d h0 (zoV w) 175 [(0, .ref v0), (1, .int v1), (2, .int v2)] [] h) hf (fun v1 v2 h hf => ?_) (fun j175 hj175 hf => ?_)
        · refine z_iinc (v2 + (1 : Int32)) 2 [(2, .int (v2 + (1 : Int32))), (0, .ref v0), (1, .int v1)] dX2_init_175 rfl rfl (by decide) rfl ?_
          refine z_goto 26 dX2_init_178 (by decide) ?_
          exact Z.sub [1, 2, 0] rfl (ih v1 (v2 + (1 : Int32)) h hf)
        · refine z_icmp_ne 175 dX2_init_94 (by decide) hf (fun hf => ?_) (fun hf => ?_)
          · refine z_iload_n 5 dX2_init_97 rfl rfl ?_
            refine z_iconst (5 : Int32) dX2_init_98 (by decide) ?_
            refine z_imul dX2_init_99 ?_
            refine z_istore [(7, .int (v1 * (5 : Int32))), (6, .int ((4 : Int32) - x10)), (5, .int ((4 : Int32) - x9)), (4, .int ((4 : Int32) - x7)), (3, .int ((4 : Int32) - x5)), (0, .ref v0), (1, .int v1), (2, .int v2)] dX2_init_100 (by decide) rfl ?_
            refine z_aload_n 5 dX2_init_102 rfl rfl ?_
            refine z_getA dX2_init_103 zc2 (by decide) wf_X2_9 hf fun x12 hf => ?_
            refine z_iload 0 dX2_init_106 rfl ?_
            refine z_bipush (10 : Int32) dX2_init_108 (by decide) ?_
            refine z_iload_n 4 dX2_init_110 rfl rfl ?_
            refine z_isub dX2_init_111 ?_
            refine z_iload 3 dX2_init_112 rfl ?_
            refine z_isub dX2_init_114 ?_
            refine z_iload 2 dX2_init_115 rfl ?_
            refine z_isub dX2_init_117 ?_
            refine z_iload 1 dX2_init_118 rfl ?_
            refine z_isub dX2_init_120 ?_
            refine z_iastore dX2_init_121 hf fun h13 hf => ?_
            refine z_aload_n 5 dX2_init_122 rfl rfl ?_
            refine z_getA dX2_init_123 zc2 (by decide) wf_X2_9 hf fun x14 hf => ?_
            refine z_iload 0 dX2_init_126 rfl ?_
            refine z_iconst (1 : Int32) dX2_init_128 (by decide) ?_
            refine z_iadd dX2_init_129 ?_
            refine z_iload 1 dX2_init_130 rfl ?_
            refine z_iastore dX2_init_132 hf fun h15 hf => ?_
            refine z_aload_n 5 dX2_init_133 rfl rfl ?_
            refine z_getA dX2_init_134 zc2 (by decide) wf_X2_9 hf fun x16 hf => ?_
            refine z_iload 0 dX2_init_137 rfl ?_
            refine z_iconst (2 : Int32) dX2_init_139 (by decide) ?_
            refine z_iadd dX2_init_140 ?_
            refine z_iload 2 dX2_init_141 rfl ?_
            refine z_iastore dX2_init_143 hf fun h17 hf => ?_
            refine z_aload_n 5 dX2_init_144 rfl rfl ?_
            refine z_getA dX2_init_145 zc2 (by decide) wf_X2_9 hf fun x18 hf => ?_
            refine z_iload 0 dX2_init_148 rfl ?_
            refine z_iconst (3 : Int32) dX2_init_150 (by decide) ?_
            refine z_iadd dX2_init_151 ?_
            refine z_iload 3 dX2_init_152 rfl ?_
            refine z_iastore dX2_init_154 hf fun h19 hf => ?_
            refine z_aload_n 5 dX2_init_155 rfl rfl ?_
            refine z_getA dX2_init_156 zc2 (by decide) wf_X2_9 hf fun x20 hf => ?_
            refine z_iload 0 dX2_init_159 rfl ?_
            refine z_iconst (4 : Int32) dX2_init_161 (by decide) ?_
            refine z_iadd dX2_init_162 ?_
            refine z_iload_n 4 dX2_init_163 rfl rfl ?_
            refine z_iastore dX2_init_164 hf fun h21 hf => ?_
            refine z_aload_n 5 dX2_init_165 rfl rfl ?_
            refine z_getA dX2_init_166 zc2 (by decide) wf_X2_15 hf fun x22 hf => ?_
            refine z_iload_n 7 dX2_init_169 rfl rfl ?_
            refine z_iload_n 6 dX2_init_170 rfl rfl ?_
            refine z_iastore dX2_init_171 hf fun h23 hf => ?_
            refine z_iinc (v1 + (1 : Int32)) 6 [(1, .int (v1 + (1 : Int32))), (7, .int (v1 * (5 : Int32))), (6, .int ((4 : Int32) - x10)), (5, .int ((4 : Int32) - x9)), (4, .int ((4 : Int32) - x7)), (3, .int ((4 : Int32) - x5)), (0, .ref v0), (2, .int v2)] dX2_init_172 rfl rfl (by decide) rfl ?_
            exact Z.sub [6, 0, 7] rfl (hj175 (v1 + (1 : Int32)) v2 h23 hf)
          · exact Z.sub [4, 5, 6] rfl (hj175 v1 v2 y11.2 hf)
set_option maxRecDepth 4000 in
theorem zc_X2_init {Γ : zG} {N d : Nat} (hd : 11 ≤ d) {a : Nat} {h : zH} {w : zH} (hf : f_X2_init N a h = some w) : Zm Γ m_X2_init d [.ref a] h (zoV w) := by
  unfold f_X2_init at hf
  refine z_meth rfl (plainFor_of_name wpl_X2) (by simp [lg_sl, Value.category, zml, m_X2_init]) ?_
  refine z_aload_n 0 dX2_init_0 rfl rfl ?_
  refine z_objInit dX2_init_1 wl_X2_3 wi_obj wi_objc (by omega) (Nat.le_of_ble_eq_true rfl) ?_
  refine z_aload_n 0 dX2_init_4 rfl rfl ?_
  refine z_sipush (600 : Int32) dX2_init_5 (by decide) ?_
  refine z_nwI dX2_init_8 wa_I hf fun y1 hf => ?_
  refine z_putB dX2_init_10 zc2 (by decide) wf_X2_9 (Or.inr ⟨rfl, rfl, rfl, rfl⟩) rfl rfl hf fun h2 hf => ?_
  refine z_aload_n 0 dX2_init_13 rfl rfl ?_
  refine z_sipush (625 : Int32) dX2_init_14 (by decide) ?_
  refine z_nwI dX2_init_17 wa_I hf fun y3 hf => ?_
  refine z_putB dX2_init_19 zc2 (by decide) wf_X2_15 (Or.inr ⟨rfl, rfl, rfl, rfl⟩) rfl rfl hf fun h4 hf => ?_
  refine z_iconst (0 : Int32) dX2_init_22 (by decide) ?_
  refine z_istore_n [(1, .int (0 : Int32)), (0, .ref a)] dX2_init_23 rfl (by decide) rfl ?_
  refine z_iconst (0 : Int32) dX2_init_24 (by decide) ?_
  refine z_istore_n [(2, .int (0 : Int32)), (1, .int (0 : Int32)), (0, .ref a)] dX2_init_25 rfl (by decide) rfl ?_
  refine Z.sub [2, 1, 0] rfl (zl_X2_init_26 hd  N (0 : Int32) (0 : Int32) h4 hf)
set_option maxRecDepth 4000 in
theorem zc_J9_max_7cf53 {Γ : zG} {N d : Nat} (hd : 10 ≤ d) {p1 : Int32} {p2 : Int32} {h : zH} {w : Int32 × zH} (hf : f_J9_max_7cf53 N p1 p2 h = some w) : Zm Γ m_J9_max_7cf53 d [.int p1, .int p2] h (zoI w) := by
  unfold f_J9_max_7cf53 at hf
  refine z_meth rfl (by decide +kernel) (by simp [lg_sl, Value.category, zml, m_J9_max_7cf53]) ?_
  refine z_iload_n 0 dJ9_max_7cf53_0 rfl rfl ?_
  refine z_iload_n 1 dJ9_max_7cf53_1 rfl rfl ?_
  refine z_icmp_lt 9 dJ9_max_7cf53_2 (by decide) hf (fun hf => ?_) (fun hf => ?_)
  · refine z_iload_n 1 dJ9_max_7cf53_9 rfl rfl ?_
    exact z_iret dJ9_max_7cf53_10 rfl (by cases hf; rfl)
  · refine z_iload_n 0 dJ9_max_7cf53_5 rfl rfl ?_
    refine z_goto 10 dJ9_max_7cf53_6 (by decide) ?_
    exact z_iret dJ9_max_7cf53_10 rfl (by cases hf; rfl)
set_option maxRecDepth 4000 in
theorem zc_X6_init {Γ : zG} {N d : Nat} (hd : 11 ≤ d) {a : Nat} {p1 : Int32} {h : zH} {w : zH} (hf : f_X6_init N a p1 h = some w) : Zm Γ m_X6_init d [.ref a, .int p1] h (zoV w) := by
  unfold f_X6_init at hf
  refine z_meth rfl (plainFor_of_name wpl_X6) (by simp [lg_sl, Value.category, zml, m_X6_init]) ?_
  refine z_aload_n 0 dX6_init_0 rfl rfl ?_
  refine z_objInit dX6_init_1 wl_X6_1 wi_obj wi_objc (by omega) (Nat.le_of_ble_eq_true rfl) ?_
  refine z_aload_n 0 dX6_init_4 rfl rfl ?_
  refine z_iload_n 1 dX6_init_5 rfl rfl ?_
  refine z_iconst (0 : Int32) dX6_init_6 (by decide) ?_
  refine z_cS_i (d' := d - 1) (As := [.int p1, .int (0 : Int32)]) (rest := [.ref a]) dX6_init_7 lk_X6_7 hf (fun w1 e1 => zc_J9_max_7cf53 (by omega) e1) (by omega) rfl rfl (Nat.le_of_ble_eq_true rfl) fun y1 hf => ?_
  refine z_nwI dX6_init_10 wa_I hf fun y2 hf => ?_
  refine z_putB dX6_init_12 zc6 (by decide) wf_X6_13 (Or.inr ⟨rfl, rfl, rfl, rfl⟩) rfl rfl hf fun h3 hf => ?_
  refine z_aload_n 0 dX6_init_15 rfl rfl ?_
  refine z_iconst (0 : Int32) dX6_init_16 (by decide) ?_
  refine z_putB dX6_init_17 zc6 (by decide) wf_X6_19 (Or.inl rfl) rfl rfl hf fun h4 hf => ?_
  exact z_vret dX6_init_20 rfl (by cases hf; rfl)
set_option maxRecDepth 4000 in
theorem zc_X1_init {Γ : zG} {N d : Nat} (hd : 12 ≤ d) {a : Nat} {h : zH} {w : zH} (hf : f_X1_init N a h = some w) : Zm Γ m_X1_init d [.ref a] h (zoV w) := by
  unfold f_X1_init at hf
  refine z_meth rfl (plainFor_of_name wpl_X1) (by simp [lg_sl, Value.category, zml, m_X1_init]) ?_
  refine z_aload_n 0 dX1_init_0 rfl rfl ?_
  refine z_objInit dX1_init_1 wl_X1_3 wi_obj wi_objc (by omega) (Nat.le_of_ble_eq_true rfl) ?_
  refine z_aload_n 0 dX1_init_4 rfl rfl ?_
  refine z_nwO dX1_init_5 zc6 wc_X1_9 wn_X6 wi_X6 rfl zd6 hf fun y1 hf => ?_
  refine z_dup dX1_init_8 rfl ?_
  refine z_bipush (8 : Int32) dX1_init_9 (by decide) ?_
  refine z_cI_v (d' := d - 1) (As := [.int (8 : Int32)]) (rest := [.ref y1.1, .ref a]) dX1_init_11 lk_X1_11 hf (fun w1 e1 => zc_X6_init (by omega) e1) (by omega) rfl rfl (Nat.le_of_ble_eq_true rfl) fun y2 hf => ?_
  refine z_putB dX1_init_14 zc1 (by decide) wf_X1_14 (Or.inr ⟨rfl, rfl, rfl, rfl⟩) rfl rfl hf fun h3 hf => ?_
  refine z_aload_n 0 dX1_init_17 rfl rfl ?_
  refine z_nwO dX1_init_18 zc6 wc_X1_9 wn_X6 wi_X6 rfl zd6 hf fun y4 hf => ?_
  refine z_dup dX1_init_21 rfl ?_
  refine z_bipush (8 : Int32) dX1_init_22 (by decide) ?_
  refine z_cI_v (d' := d - 1) (As := [.int (8 : Int32)]) (rest := [.ref y4.1, .ref a]) dX1_init_24 lk_X1_11 hf (fun w1 e1 => zc_X6_init (by omega) e1) (by omega) rfl rfl (Nat.le_of_ble_eq_true rfl) fun y5 hf => ?_
  refine z_putB dX1_init_27 zc1 (by decide) wf_X1_20 (Or.inr ⟨rfl, rfl, rfl, rfl⟩) rfl rfl hf fun h6 hf => ?_
  exact z_vret dX1_init_30 rfl (by cases hf; rfl)
set_option maxRecDepth 4000 in
theorem zc_X5_init {Γ : zG} {N d : Nat} (hd : 10 ≤ d) {a : Nat} {p1 : Nat} {h : zH} {w : zH} (hf : f_X5_init N a p1 h = some w) : Zm Γ m_X5_init d [.ref a, .ref p1] h (zoV w) := by
  unfold f_X5_init at hf
  refine z_meth rfl (plainFor_of_name wpl_X5) (by simp [lg_sl, Value.category, zml, m_X5_init]) ?_
  refine z_aload_n 0 dX5_init_0 rfl rfl ?_
  refine z_objInit dX5_init_1 wl_X5_3 wi_obj wi_objc (by omega) (Nat.le_of_ble_eq_true rfl) ?_
  refine z_aload_n 0 dX5_init_4 rfl rfl ?_
  refine z_aload_n 1 dX5_init_5 rfl rfl ?_
  refine z_putB dX5_init_6 zc5 (by decide) wf_X5_9 (Or.inr ⟨rfl, rfl, rfl, rfl⟩) rfl rfl hf fun h1 hf => ?_
  refine z_aload_n 0 dX5_init_9 rfl rfl ?_
  refine z_bipush (11 : Int32) dX5_init_10 (by decide) ?_
  refine z_nwJ dX5_init_12 wa_J hf fun y2 hf => ?_
  refine z_putB dX5_init_14 zc5 (by decide) wf_X5_15 (Or.inr ⟨rfl, rfl, rfl, rfl⟩) rfl rfl hf fun h3 hf => ?_
  exact z_vret dX5_init_17 rfl (by cases hf; rfl)
set_option maxRecDepth 4000 in
theorem zl_X0_init_19 {Γ : zG} {N d : Nat} {h0 : zH} (hd : 13 ≤ d) {v0 : Nat} {k1 : zH → Option (zH)} {w : zH}  (hk1 : ∀ (h : zH), k1 h = some w → Z Γ m_X0_init d h0 (zoV w) 43 [(0, .ref v0)] [] h) : ∀ (n : Nat) (v2 : Int32) (h : zH), f_X0_init_l19 N v0 k1 n v2 h = some w → Z Γ m_X0_init d h0 (zoV w) 19 [(0, .ref v0), (2, .int v2)] [] h := by
  intro n
  induction n with
  | zero => intro v2 h hf; cases hf
  | succ n ih =>
    intro v2 h hf
    rw [f_X0_init_l19] at hf
    refine z_iload_n 1 dX0_init_19 rfl rfl ?_
    refine z_iconst (5 : Int32) dX0_init_20 (by decide) ?_
    refine z_icmp_ge 43 dX0_init_21 (by decide) hf (fun hf => ?_) (fun hf => ?_)
    · exact Z.sub [0] rfl (hk1 h hf)
    · refine z_aload_n 0 dX0_init_24 rfl rfl ?_
      refine z_getA dX0_init_25 zc0 (by decide) wf_X0_17 hf fun x4 hf => ?_
      refine z_iload_n 1 dX0_init_28 rfl rfl ?_
      refine z_nwO dX0_init_29 zc1 wc_X0_15 wn_X1 wi_X1 rfl zd1 hf fun y5 hf => ?_
      refine z_dup dX0_init_32 rfl ?_
      refine z_cI_v (d' := d - 1) (As := []) (rest := [.ref y5.1, .int v2, .ref x4]) dX0_init_33 lk_X0_21 hf (fun w1 e1 => zc_X1_init (by omega) e1) (by omega) rfl rfl (Nat.le_of_ble_eq_true rfl) fun y6 hf => ?_
      refine z_aastore dX0_init_36 hf fun h7 hf => ?_
      refine z_iinc (v2 + (1 : Int32)) 1 [(2, .int (v2 + (1 : Int32))), (0, .ref v0)] dX0_init_37 rfl rfl (by decide) rfl ?_
      refine z_goto 19 dX0_init_40 (by decide) ?_
      exact Z.sub [1, 0] rfl (ih (v2 + (1 : Int32)) h7 hf)
set_option maxRecDepth 4000 in
theorem zc_X0_init {Γ : zG} {N d : Nat} (hd : 13 ≤ d) {a : Nat} {p1 : Nat} {h : zH} {w : zH} (hf : f_X0_init N a p1 h = some w) : Zm Γ m_X0_init d [.ref a, .ref p1] h (zoV w) := by
  unfold f_X0_init at hf
  refine z_meth rfl (plainFor_of_name wpl_X0) (by simp [lg_sl, Value.category, zml, m_X0_init]) ?_
  refine z_aload_n 0 dX0_init_0 rfl rfl ?_
  refine z_objInit dX0_init_1 wl_X0_3 wi_obj wi_objc (by omega) (Nat.le_of_ble_eq_true rfl) ?_
  refine z_aload_n 0 dX0_init_4 rfl rfl ?_
  refine z_aload_n 1 dX0_init_5 rfl rfl ?_
  refine z_putB dX0_init_6 zc0 (by decide) wf_X0_9 (Or.inr ⟨rfl, rfl, rfl, rfl⟩) rfl rfl hf fun h1 hf => ?_
  refine z_aload_n 0 dX0_init_9 rfl rfl ?_
  refine z_iconst (5 : Int32) dX0_init_10 (by decide) ?_
  refine z_nwQ 3 rfl dX0_init_11 wc_X0_15 wo_3 hf fun y2 hf => ?_
  refine z_putB dX0_init_14 zc0 (by decide) wf_X0_17 (Or.inr ⟨rfl, rfl, rfl, rfl⟩) rfl rfl hf fun h3 hf => ?_
  refine z_iconst (0 : Int32) dX0_init_17 (by decide) ?_
  refine z_istore_n [(2, .int (0 : Int32)), (0, .ref a), (1, .ref p1)] dX0_init_18 rfl (by decide) rfl ?_
  refine Z.sub [1, 0] rfl (zl_X0_init_19 hd (fun h8 hf => ?_) N (0 : Int32) h3 hf)
  · refine z_aload_n 0 dX0_init_43 rfl rfl ?_
    refine z_nwO dX0_init_44 zc6 wc_X0_22 wn_X6 wi_X6 rfl zd6 hf fun y9 hf => ?_
    refine z_dup dX0_init_47 rfl ?_
    refine z_bipush (12 : Int32) dX0_init_48 (by decide) ?_
    refine z_cI_v (d' := d - 1) (As := [.int (12 : Int32)]) (rest := [.ref y9.1, .ref a]) dX0_init_50 lk_X0_24 hf (fun w1 e1 => zc_X6_init (by omega) e1) (by omega) rfl rfl (Nat.le_of_ble_eq_true rfl) fun y10 hf => ?_
    refine z_putB dX0_init_53 zc0 (by decide) wf_X0_27 (Or.inr ⟨rfl, rfl, rfl, rfl⟩) rfl rfl hf fun h11 hf => ?_
    refine z_aload_n 0 dX0_init_56 rfl rfl ?_
    refine z_nwO dX0_init_57 zc6 wc_X0_22 wn_X6 wi_X6 rfl zd6 hf fun y12 hf => ?_
    refine z_dup dX0_init_60 rfl ?_
    refine z_bipush (20 : Int32) dX0_init_61 (by decide) ?_
    refine z_cI_v (d' := d - 1) (As := [.int (20 : Int32)]) (rest := [.ref y12.1, .ref a]) dX0_init_63 lk_X0_24 hf (fun w1 e1 => zc_X6_init (by omega) e1) (by omega) rfl rfl (Nat.le_of_ble_eq_true rfl) fun y13 hf => ?_
    refine z_putB dX0_init_66 zc0 (by decide) wf_X0_31 (Or.inr ⟨rfl, rfl, rfl, rfl⟩) rfl rfl hf fun h14 hf => ?_
    refine z_aload_n 0 dX0_init_69 rfl rfl ?_
    refine z_nwO dX0_init_70 zc6 wc_X0_22 wn_X6 wi_X6 rfl zd6 hf fun y15 hf => ?_
    refine z_dup dX0_init_73 rfl ?_
    refine z_bipush (20 : Int32) dX0_init_74 (by decide) ?_
    refine z_cI_v (d' := d - 1) (As := [.int (20 : Int32)]) (rest := [.ref y15.1, .ref a]) dX0_init_76 lk_X0_24 hf (fun w1 e1 => zc_X6_init (by omega) e1) (by omega) rfl rfl (Nat.le_of_ble_eq_true rfl) fun y16 hf => ?_
    refine z_putB dX0_init_79 zc0 (by decide) wf_X0_34 (Or.inr ⟨rfl, rfl, rfl, rfl⟩) rfl rfl hf fun h17 hf => ?_
    refine z_aload_n 0 dX0_init_82 rfl rfl ?_
    refine z_nwO dX0_init_83 zc6 wc_X0_22 wn_X6 wi_X6 rfl zd6 hf fun y18 hf => ?_
    refine z_dup dX0_init_86 rfl ?_
    refine z_bipush (20 : Int32) dX0_init_87 (by decide) ?_
    refine z_cI_v (d' := d - 1) (As := [.int (20 : Int32)]) (rest := [.ref y18.1, .ref a]) dX0_init_89 lk_X0_24 hf (fun w1 e1 => zc_X6_init (by omega) e1) (by omega) rfl rfl (Nat.le_of_ble_eq_true rfl) fun y19 hf => ?_
    refine z_putB dX0_init_92 zc0 (by decide) wf_X0_37 (Or.inr ⟨rfl, rfl, rfl, rfl⟩) rfl rfl hf fun h20 hf => ?_
    refine z_aload_n 0 dX0_init_95 rfl rfl ?_
    refine z_nwO dX0_init_96 zc5 wc_X0_40 wn_X5 wi_X5 rfl zd5 hf fun y21 hf => ?_
    refine z_dup dX0_init_99 rfl ?_
    refine z_iconst (1 : Int32) dX0_init_100 (by decide) ?_
    refine z_nwI dX0_init_101 wa_I hf fun y22 hf => ?_
    refine z_dup dX0_init_103 rfl ?_
    refine z_iconst (0 : Int32) dX0_init_104 (by decide) ?_
    refine z_iconst (-1 : Int32) dX0_init_105 (by decide) ?_
    refine z_iastore dX0_init_106 hf fun h23 hf => ?_
    refine z_cI_v (d' := d - 1) (As := [.ref y22.1]) (rest := [.ref y21.1, .ref a]) dX0_init_107 lk_X0_42 hf (fun w1 e1 => zc_X5_init (by omega) e1) (by omega) rfl rfl (Nat.le_of_ble_eq_true rfl) fun y24 hf => ?_
    refine z_putB dX0_init_110 zc0 (by decide) wf_X0_45 (Or.inr ⟨rfl, rfl, rfl, rfl⟩) rfl rfl hf fun h25 hf => ?_
    refine z_aload_n 0 dX0_init_113 rfl rfl ?_
    refine z_aload_n 0 dX0_init_114 rfl rfl ?_
    refine z_getA dX0_init_115 zc0 (by decide) wf_X0_45 hf fun x26 hf => ?_
    refine z_putB dX0_init_118 zc0 (by decide) wf_X0_49 (Or.inl rfl) rfl rfl hf fun h27 hf => ?_
    refine z_aload_n 0 dX0_init_121 rfl rfl ?_
    refine z_iconst (2 : Int32) dX0_init_122 (by decide) ?_
    refine z_putB dX0_init_123 zc0 (by decide) wf_X0_52 (Or.inl rfl) rfl rfl hf fun h28 hf => ?_
    exact z_vret dX0_init_126 rfl (by cases hf; rfl)
set_option maxRecDepth 4000 in
theorem zc_X7_init {Γ : zG} {N d : Nat} (hd : 14 ≤ d) {a : Nat} {p1 : Nat} {h : zH} {w : zH} (hf : f_X7_init N a p1 h = some w) : Zm Γ m_X7_init d [.ref a, .ref p1] h (zoV w) := by
  unfold f_X7_init at hf
  refine z_meth rfl (plainFor_of_name wpl_X7) (by simp [lg_sl, Value.category, zml, m_X7_init]) ?_
  refine z_aload_n 0 dX7_init_0 rfl rfl ?_
  refine z_objInit dX7_init_1 wl_X7_3 wi_obj wi_objc (by omega) (Nat.le_of_ble_eq_true rfl) ?_
  refine z_aload_n 0 dX7_init_4 rfl rfl ?_
  refine z_aload_n 1 dX7_init_5 rfl rfl ?_
  refine z_putB dX7_init_6 zc7 (by decide) wf_X7_9 (Or.inr ⟨rfl, rfl, rfl, rfl⟩) rfl rfl hf fun h1 hf => ?_
  refine z_aload_n 0 dX7_init_9 rfl rfl ?_
  refine z_sipush (700 : Int32) dX7_init_10 (by decide) ?_
  refine z_nwI dX7_init_13 wa_I hf fun y2 hf => ?_
  refine z_putB dX7_init_15 zc7 (by decide) wf_X7_15 (Or.inr ⟨rfl, rfl, rfl, rfl⟩) rfl rfl hf fun h3 hf => ?_
  refine z_aload_n 0 dX7_init_18 rfl rfl ?_
  refine z_nwO dX7_init_19 zc6 wc_X7_19 wn_X6 wi_X6 rfl zd6 hf fun y4 hf => ?_
  refine z_dup dX7_init_22 rfl ?_
  refine z_sipush (700 : Int32) dX7_init_23 (by decide) ?_
  refine z_cI_v (d' := d - 1) (As := [.int (700 : Int32)]) (rest := [.ref y4.1, .ref a]) dX7_init_26 lk_X7_21 hf (fun w1 e1 => zc_X6_init (by omega) e1) (by omega) rfl rfl (Nat.le_of_ble_eq_true rfl) fun y5 hf => ?_
  refine z_putB dX7_init_29 zc7 (by decide) wf_X7_24 (Or.inr ⟨rfl, rfl, rfl, rfl⟩) rfl rfl hf fun h6 hf => ?_
  refine z_aload_n 0 dX7_init_32 rfl rfl ?_
  refine z_nwO dX7_init_33 zc0 wc_X7_28 wn_X0 wi_X0 rfl zd0 hf fun y7 hf => ?_
  refine z_dup dX7_init_36 rfl ?_
  refine z_aload_n 1 dX7_init_37 rfl rfl ?_
  refine z_cI_v (d' := d - 1) (As := [.ref p1]) (rest := [.ref y7.1, .ref a]) dX7_init_38 lk_X7_30 hf (fun w1 e1 => zc_X0_init (by omega) e1) (by omega) rfl rfl (Nat.le_of_ble_eq_true rfl) fun y8 hf => ?_
  refine z_putB dX7_init_41 zc7 (by decide) wf_X7_33 (Or.inr ⟨rfl, rfl, rfl, rfl⟩) rfl rfl hf fun h9 hf => ?_
  exact z_vret dX7_init_44 rfl (by cases hf; rfl)
set_option maxRecDepth 4000 in
theorem zl_X4_init_15 {Γ : zG} {N d : Nat} {h0 : zH} (hd : 14 ≤ d) {v0 : Nat} {v1 : Nat}  {w : zH}   : ∀ (n : Nat) (v2 : Int32) (h : zH), f_X4_init_l15 N v0 v1 n v2 h = some w → Z Γ m_X4_init d h0 (zoV w) 15 [(0, .ref v0), (1, .ref v1), (2, .int v2)] [] h := by
  intro n
  induction n with
  | zero => intro v2 h hf; cases hf
  | succ n ih =>
    intro v2 h hf
    rw [f_X4_init_l15] at hf
    refine z_iload_n 2 dX4_init_15 rfl rfl ?_
    refine z_bipush (8 : Int32) dX4_init_16 (by decide) ?_
    refine z_icmp_ge 41 dX4_init_18 (by decide) hf (fun hf => ?_) (fun hf => ?_)
    · exact z_vret dX4_init_41 rfl (by cases hf; rfl)
    · refine z_aload_n 0 dX4_init_21 rfl rfl ?_
      refine z_getA dX4_init_22 zc4 (by decide) wf_X4_11 hf fun x3 hf => ?_
      refine z_iload_n 2 dX4_init_25 rfl rfl ?_
      refine z_nwO dX4_init_26 zc0 wc_X4_9 wn_X0 wi_X0 rfl zd0 hf fun y4 hf => ?_
      refine z_dup dX4_init_29 rfl ?_
      refine z_aload_n 1 dX4_init_30 rfl rfl ?_
      refine z_cI_v (d' := d - 1) (As := [.ref v1]) (rest := [.ref y4.1, .int v2, .ref x3]) dX4_init_31 lk_X4_17 hf (fun w1 e1 => zc_X0_init (by omega) e1) (by omega) rfl rfl (Nat.le_of_ble_eq_true rfl) fun y5 hf => ?_
      refine z_aastore dX4_init_34 hf fun h6 hf => ?_
      refine z_iinc (v2 + (1 : Int32)) 2 [(2, .int (v2 + (1 : Int32))), (0, .ref v0), (1, .ref v1)] dX4_init_35 rfl rfl (by decide) rfl ?_
      refine z_goto 15 dX4_init_38 (by decide) ?_
      exact Z.sub [1, 2, 0] rfl (ih (v2 + (1 : Int32)) h6 hf)
set_option maxRecDepth 4000 in
theorem zc_X4_init {Γ : zG} {N d : Nat} (hd : 14 ≤ d) {a : Nat} {p1 : Nat} {h : zH} {w : zH} (hf : f_X4_init N a p1 h = some w) : Zm Γ m_X4_init d [.ref a, .ref p1] h (zoV w) := by
  unfold f_X4_init at hf
  refine z_meth rfl (plainFor_of_name wpl_X4) (by simp [lg_sl, Value.category, zml, m_X4_init]) ?_
  refine z_aload_n 0 dX4_init_0 rfl rfl ?_
  refine z_objInit dX4_init_1 wl_X4_3 wi_obj wi_objc (by omega) (Nat.le_of_ble_eq_true rfl) ?_
  refine z_aload_n 0 dX4_init_4 rfl rfl ?_
  refine z_bipush (8 : Int32) dX4_init_5 (by decide) ?_
  refine z_nwQ 4 rfl dX4_init_7 wc_X4_9 wo_4 hf fun y1 hf => ?_
  refine z_putB dX4_init_10 zc4 (by decide) wf_X4_11 (Or.inr ⟨rfl, rfl, rfl, rfl⟩) rfl rfl hf fun h2 hf => ?_
  refine z_iconst (0 : Int32) dX4_init_13 (by decide) ?_
  refine z_istore_n [(2, .int (0 : Int32)), (0, .ref a), (1, .ref p1)] dX4_init_14 rfl (by decide) rfl ?_
  refine Z.sub [1, 2, 0] rfl (zl_X4_init_15 hd  N (0 : Int32) h2 hf)
set_option maxRecDepth 4000 in
theorem zc_X3_init {Γ : zG} {N d : Nat} (hd : 12 ≤ d) {a : Nat} {p1 : Nat} {h : zH} {w : zH} (hf : f_X3_init N a p1 h = some w) : Zm Γ m_X3_init d [.ref a, .ref p1] h (zoV w) := by
  unfold f_X3_init at hf
  refine z_meth rfl (plainFor_of_name wpl_X3) (by simp [lg_sl, Value.category, zml, m_X3_init]) ?_
  refine z_aload_n 0 dX3_init_0 rfl rfl ?_
  refine z_objInit dX3_init_1 wl_X3_5 wi_obj wi_objc (by omega) (Nat.le_of_ble_eq_true rfl) ?_
  refine z_aload_n 0 dX3_init_4 rfl rfl ?_
  refine z_aload_n 1 dX3_init_5 rfl rfl ?_
  refine z_putB dX3_init_6 zc3 (by decide) wf_X3_11 (Or.inr ⟨rfl, rfl, rfl, rfl⟩) rfl rfl hf fun h1 hf => ?_
  refine z_aload_n 0 dX3_init_9 rfl rfl ?_
  refine z_sipush (960 : Int32) dX3_init_10 (by decide) ?_
  refine z_nwI dX3_init_13 wa_I hf fun y2 hf => ?_
  refine z_putB dX3_init_15 zc3 (by decide) wf_X3_15 (Or.inr ⟨rfl, rfl, rfl, rfl⟩) rfl rfl hf fun h3 hf => ?_
  refine z_aload_n 0 dX3_init_18 rfl rfl ?_
  refine z_sipush (514 : Int32) dX3_init_19 (by decide) ?_
  refine z_nwJ dX3_init_22 wa_J hf fun y4 hf => ?_
  refine z_putB dX3_init_24 zc3 (by decide) wf_X3_19 (Or.inr ⟨rfl, rfl, rfl, rfl⟩) rfl rfl hf fun h5 hf => ?_
  refine z_aload_n 0 dX3_init_27 rfl rfl ?_
  refine z_nwO dX3_init_28 zc6 wc_X3_23 wn_X6 wi_X6 rfl zd6 hf fun y6 hf => ?_
  refine z_dup dX3_init_31 rfl ?_
  refine z_bipush (120 : Int32) dX3_init_32 (by decide) ?_
  refine z_cI_v (d' := d - 1) (As := [.int (120 : Int32)]) (rest := [.ref y6.1, .ref a]) dX3_init_34 lk_X3_25 hf (fun w1 e1 => zc_X6_init (by omega) e1) (by omega) rfl rfl (Nat.le_of_ble_eq_true rfl) fun y7 hf => ?_
  refine z_putB dX3_init_37 zc3 (by decide) wf_X3_28 (Or.inr ⟨rfl, rfl, rfl, rfl⟩) rfl rfl hf fun h8 hf => ?_
  exact z_vret dX3_init_40 rfl (by cases hf; rfl)
set_option maxRecDepth 4000 in
theorem zc_X8_init {Γ : zG} {N d : Nat} (hd : 15 ≤ d) {a : Nat} {h : zH} {w : zH} (hf : f_X8_init N a h = some w) : Zm Γ m_X8_init d [.ref a] h (zoV w) := by
  unfold f_X8_init at hf
  refine z_meth rfl (plainFor_of_name wpl_X8) (by simp [lg_sl, Value.category, zml, m_X8_init]) ?_
  refine z_aload_n 0 dX8_init_0 rfl rfl ?_
  refine z_objInit dX8_init_1 wl_X8_1 wi_obj wi_objc (by omega) (Nat.le_of_ble_eq_true rfl) ?_
  refine z_aload_n 0 dX8_init_4 rfl rfl ?_
  refine z_nwO dX8_init_5 zc2 wc_X8_7 wn_X2 wi_X2 rfl zd2 hf fun y1 hf => ?_
  refine z_dup dX8_init_8 rfl ?_
  refine z_cI_v (d' := d - 1) (As := []) (rest := [.ref y1.1, .ref a]) dX8_init_9 lk_X8_9 hf (fun w1 e1 => zc_X2_init (by omega) e1) (by omega) rfl rfl (Nat.le_of_ble_eq_true rfl) fun y2 hf => ?_
  refine z_putB dX8_init_12 zc8 (by decide) wf_X8_10 (Or.inr ⟨rfl, rfl, rfl, rfl⟩) rfl rfl hf fun h3 hf => ?_
  refine z_aload_n 0 dX8_init_15 rfl rfl ?_
  refine z_nwO dX8_init_16 zc7 wc_X8_16 wn_X7 wi_X7 rfl zd7 hf fun y4 hf => ?_
  refine z_dup dX8_init_19 rfl ?_
  refine z_aload_n 0 dX8_init_20 rfl rfl ?_
  refine z_getA dX8_init_21 zc8 (by decide) wf_X8_10 hf fun x5 hf => ?_
  refine z_cI_v (d' := d - 1) (As := [.ref x5]) (rest := [.ref y4.1, .ref a]) dX8_init_24 lk_X8_18 hf (fun w1 e1 => zc_X7_init (by omega) e1) (by omega) rfl rfl (Nat.le_of_ble_eq_true rfl) fun y6 hf => ?_
  refine z_putB dX8_init_27 zc8 (by decide) wf_X8_21 (Or.inr ⟨rfl, rfl, rfl, rfl⟩) rfl rfl hf fun h7 hf => ?_
  refine z_aload_n 0 dX8_init_30 rfl rfl ?_
  refine z_nwO dX8_init_31 zc0 wc_X8_25 wn_X0 wi_X0 rfl zd0 hf fun y8 hf => ?_
  refine z_dup dX8_init_34 rfl ?_
  refine z_aload_n 0 dX8_init_35 rfl rfl ?_
  refine z_getA dX8_init_36 zc8 (by decide) wf_X8_10 hf fun x9 hf => ?_
  refine z_cI_v (d' := d - 1) (As := [.ref x9]) (rest := [.ref y8.1, .ref a]) dX8_init_39 lk_X8_27 hf (fun w1 e1 => zc_X0_init (by omega) e1) (by omega) rfl rfl (Nat.le_of_ble_eq_true rfl) fun y10 hf => ?_
  refine z_putB dX8_init_42 zc8 (by decide) wf_X8_28 (Or.inr ⟨rfl, rfl, rfl, rfl⟩) rfl rfl hf fun h11 hf => ?_
  refine z_aload_n 0 dX8_init_45 rfl rfl ?_
  refine z_nwO dX8_init_46 zc4 wc_X8_32 wn_X4 wi_X4 rfl zd4 hf fun y12 hf => ?_
  refine z_dup dX8_init_49 rfl ?_
  refine z_aload_n 0 dX8_init_50 rfl rfl ?_
  refine z_getA dX8_init_51 zc8 (by decide) wf_X8_10 hf fun x13 hf => ?_
  refine z_cI_v (d' := d - 1) (As := [.ref x13]) (rest := [.ref y12.1, .ref a]) dX8_init_54 lk_X8_34 hf (fun w1 e1 => zc_X4_init (by omega) e1) (by omega) rfl rfl (Nat.le_of_ble_eq_true rfl) fun y14 hf => ?_
  refine z_putB dX8_init_57 zc8 (by decide) wf_X8_35 (Or.inr ⟨rfl, rfl, rfl, rfl⟩) rfl rfl hf fun h15 hf => ?_
  refine z_aload_n 0 dX8_init_60 rfl rfl ?_
  refine z_nwO dX8_init_61 zc3 wc_X8_39 wn_X3 wi_X3 rfl zd3 hf fun y16 hf => ?_
  refine z_dup dX8_init_64 rfl ?_
  refine z_aload_n 0 dX8_init_65 rfl rfl ?_
  refine z_getA dX8_init_66 zc8 (by decide) wf_X8_10 hf fun x17 hf => ?_
  refine z_cI_v (d' := d - 1) (As := [.ref x17]) (rest := [.ref y16.1, .ref a]) dX8_init_69 lk_X8_41 hf (fun w1 e1 => zc_X3_init (by omega) e1) (by omega) rfl rfl (Nat.le_of_ble_eq_true rfl) fun y18 hf => ?_
  refine z_putB dX8_init_72 zc8 (by decide) wf_X8_42 (Or.inr ⟨rfl, rfl, rfl, rfl⟩) rfl rfl hf fun h19 hf => ?_
  refine z_aload_n 0 dX8_init_75 rfl rfl ?_
  refine z_iconst (-1 : Int32) dX8_init_76 (by decide) ?_
  refine z_putB dX8_init_77 zc8 (by decide) wf_X8_46 (Or.inl rfl) rfl rfl hf fun h20 hf => ?_
  exact z_vret dX8_init_80 rfl (by cases hf; rfl)
set_option maxRecDepth 4000 in
theorem zc_X11_init {Γ : zG} {N d : Nat} (hd : 10 ≤ d) {a : Nat} {p1 : Int32} {h : zH} {w : zH} (hf : f_X11_init N a p1 h = some w) : Zm Γ m_X11_init d [.ref a, .int p1] h (zoV w) := by
  unfold f_X11_init at hf
  refine z_meth rfl (plainFor_of_name wpl_X11) (by simp [lg_sl, Value.category, zml, m_X11_init]) ?_
  refine z_aload_n 0 dX11_init_0 rfl rfl ?_
  refine z_objInit dX11_init_1 wl_X11_1 wi_obj wi_objc (by omega) (Nat.le_of_ble_eq_true rfl) ?_
  refine z_aload_n 0 dX11_init_4 rfl rfl ?_
  refine z_iload_n 1 dX11_init_5 rfl rfl ?_
  refine z_putB dX11_init_6 zc11 (by decide) wf_X11_7 (Or.inl rfl) rfl rfl hf fun h1 hf => ?_
  exact z_vret dX11_init_9 rfl (by cases hf; rfl)
set_option maxRecDepth 4000 in
theorem zc_X12_init {Γ : zG} {N d : Nat} (hd : 10 ≤ d) {a : Nat} {h : zH} {w : zH} (hf : f_X12_init N a h = some w) : Zm Γ m_X12_init d [.ref a] h (zoV w) := by
  unfold f_X12_init at hf
  refine z_meth rfl (plainFor_of_name wpl_X12) (by simp [lg_sl, Value.category, zml, m_X12_init]) ?_
  refine z_aload_n 0 dX12_init_0 rfl rfl ?_
  refine z_objInit dX12_init_1 wl_X12_1 wi_obj wi_objc (by omega) (Nat.le_of_ble_eq_true rfl) ?_
  refine z_aload_n 0 dX12_init_4 rfl rfl ?_
  refine z_iconst (2 : Int32) dX12_init_5 (by decide) ?_
  refine z_putB dX12_init_6 zc12 (by decide) wf_X12_7 (Or.inl rfl) rfl rfl hf fun h1 hf => ?_
  refine z_aload_n 0 dX12_init_9 rfl rfl ?_
  refine z_iconst (0 : Int32) dX12_init_10 (by decide) ?_
  refine z_nwI dX12_init_11 wa_I hf fun y2 hf => ?_
  refine z_putB dX12_init_13 zc12 (by decide) wf_X12_13 (Or.inl rfl) rfl rfl hf fun h3 hf => ?_
  refine z_aload_n 0 dX12_init_16 rfl rfl ?_
  refine z_iconst (0 : Int32) dX12_init_17 (by decide) ?_
  refine z_nwI dX12_init_18 wa_I hf fun y4 hf => ?_
  refine z_putB dX12_init_20 zc12 (by decide) wf_X12_17 (Or.inl rfl) rfl rfl hf fun h5 hf => ?_
  refine z_aload_n 0 dX12_init_23 rfl rfl ?_
  refine z_iconst (0 : Int32) dX12_init_24 (by decide) ?_
  refine z_nwR dX12_init_25 wc_X12_20 wo_6 hf fun y6 hf => ?_
  refine z_putB dX12_init_28 zc12 (by decide) wf_X12_22 (Or.inl rfl) rfl rfl hf fun h7 hf => ?_
  refine z_aload_n 0 dX12_init_31 rfl rfl ?_
  refine z_iconst (0 : Int32) dX12_init_32 (by decide) ?_
  refine z_nwI dX12_init_33 wa_I hf fun y8 hf => ?_
  refine z_putB dX12_init_35 zc12 (by decide) wf_X12_26 (Or.inl rfl) rfl rfl hf fun h9 hf => ?_
  refine z_aload_n 0 dX12_init_38 rfl rfl ?_
  refine z_iconst (0 : Int32) dX12_init_39 (by decide) ?_
  refine z_nwQ 5 rfl dX12_init_40 wc_X12_29 wo_5 hf fun y10 hf => ?_
  refine z_putB dX12_init_43 zc12 (by decide) wf_X12_31 (Or.inl rfl) rfl rfl hf fun h11 hf => ?_
  exact z_vret dX12_init_46 rfl (by cases hf; rfl)
set_option maxRecDepth 4000 in
theorem zc_X6_size {Γ : zG} {N d : Nat} (hd : 10 ≤ d) {a : Nat} {h : zH} {w : Int32 × zH} (hf : f_X6_size N a h = some w) : Zm Γ m_X6_size d [.ref a] h (zoI w) := by
  unfold f_X6_size at hf
  refine z_meth rfl (plainFor_of_name wpl_X6) (by simp [lg_sl, Value.category, zml, m_X6_size]) ?_
  refine z_aload_n 0 dX6_size_0 rfl rfl ?_
  refine z_getI dX6_size_1 zc6 (by decide) wf_X6_19 hf fun x1 hf => ?_
  exact z_iret dX6_size_4 rfl (by cases hf; rfl)
set_option maxRecDepth 4000 in
theorem zc_X6_holds {Γ : zG} {N d : Nat} (hd : 10 ≤ d) {a : Nat} {p1 : Int32} {h : zH} {w : Int32 × zH} (hf : f_X6_holds N a p1 h = some w) : Zm Γ m_X6_holds d [.ref a, .int p1] h (zoI w) := by
  unfold f_X6_holds at hf
  refine z_meth rfl (plainFor_of_name wpl_X6) (by simp [lg_sl, Value.category, zml, m_X6_holds]) ?_
  refine z_iload_n 1 dX6_holds_0 rfl rfl ?_
  refine z_if_lt 25 dX6_holds_1 (by decide) hf (fun hf => ?_) (fun hf => ?_)
  · refine z_iconst (0 : Int32) dX6_holds_25 (by decide) ?_
    exact z_zret dX6_holds_26 rfl (Or.inl rfl) (by cases hf; rfl)
  · refine z_iload_n 1 dX6_holds_4 rfl rfl ?_
    refine z_aload_n 0 dX6_holds_5 rfl rfl ?_
    refine z_getI dX6_holds_6 zc6 (by decide) wf_X6_19 hf fun x1 hf => ?_
    refine z_icmp_ge 25 dX6_holds_9 (by decide) hf (fun hf => ?_) (fun hf => ?_)
    · refine z_iconst (0 : Int32) dX6_holds_25 (by decide) ?_
      exact z_zret dX6_holds_26 rfl (Or.inl rfl) (by cases hf; rfl)
    · refine z_iload_n 1 dX6_holds_12 rfl rfl ?_
      refine z_aload_n 0 dX6_holds_13 rfl rfl ?_
      refine z_getA dX6_holds_14 zc6 (by decide) wf_X6_13 hf fun x2 hf => ?_
      refine z_alen dX6_holds_17 hf fun x3 hf => ?_
      refine z_icmp_ge 25 dX6_holds_18 (by decide) hf (fun hf => ?_) (fun hf => ?_)
      · refine z_iconst (0 : Int32) dX6_holds_25 (by decide) ?_
        exact z_zret dX6_holds_26 rfl (Or.inl rfl) (by cases hf; rfl)
      · refine z_iconst (1 : Int32) dX6_holds_21 (by decide) ?_
        refine z_goto 26 dX6_holds_22 (by decide) ?_
        exact z_zret dX6_holds_26 rfl (Or.inr rfl) (by cases hf; rfl)
set_option maxRecDepth 4000 in
theorem zc_X0_isOver {Γ : zG} {N d : Nat} (hd : 11 ≤ d) {a : Nat} {h : zH} {w : Int32 × zH} (hf : f_X0_isOver N a h = some w) : Zm Γ m_X0_isOver d [.ref a] h (zoI w) := by
  unfold f_X0_isOver at hf
  refine z_meth rfl (plainFor_of_name wpl_X0) (by simp [lg_sl, Value.category, zml, m_X0_isOver]) ?_
  refine z_aload_n 0 dX0_isOver_0 rfl rfl ?_
  refine z_getI dX0_isOver_1 zc0 (by decide) wf_X0_56 hf fun x1 hf => ?_
  refine z_if_eq 21 dX0_isOver_4 (by decide) hf (fun hf => ?_) (fun hf => ?_)
  · refine z_iconst (1 : Int32) dX0_isOver_21 (by decide) ?_
    refine z_goto 26 dX0_isOver_22 (by decide) ?_
    exact z_zret dX0_isOver_26 rfl (Or.inr rfl) (by cases hf; rfl)
  · refine z_aload_n 0 dX0_isOver_7 rfl rfl ?_
    refine z_getA dX0_isOver_8 zc0 (by decide) wf_X0_27 hf fun x2 hf => ?_
    refine z_aload_n 0 dX0_isOver_11 rfl rfl ?_
    refine z_getI dX0_isOver_12 zc0 (by decide) wf_X0_62 hf fun x3 hf => ?_
    refine z_cV_i (d' := d - 1) (As := [.int x3]) (rest := []) dX0_isOver_15 lk_X0_90 rfl hf (fun w1 e1 => zc_X6_holds (by omega) e1) (by omega) rfl rfl (Nat.le_of_ble_eq_true rfl) fun y4 hf => ?_
    refine z_if_ne 25 dX0_isOver_18 (by decide) hf (fun hf => ?_) (fun hf => ?_)
    · refine z_iconst (1 : Int32) dX0_isOver_21 (by decide) ?_
      refine z_goto 26 dX0_isOver_22 (by decide) ?_
      exact z_zret dX0_isOver_26 rfl (Or.inr rfl) (by cases hf; rfl)
    · refine z_iconst (0 : Int32) dX0_isOver_25 (by decide) ?_
      exact z_zret dX0_isOver_26 rfl (Or.inl rfl) (by cases hf; rfl)
set_option maxRecDepth 4000 in
theorem zc_X8_state {Γ : zG} {N d : Nat} (hd : 12 ≤ d) {a : Nat} {p1 : Int32} {h : zH} {w : (Int32 ⊕ Nat) × zH} (hf : f_X8_state N a p1 h = some w) : Zm Γ m_X8_state d [.ref a, .int p1] h (zoTI w) := by
  unfold f_X8_state at hf
  refine z_meth rfl (plainFor_of_name wpl_X8) (by simp [lg_sl, Value.category, zml, m_X8_state]) ?_
  refine z_iload_n 1 dX8_state_0 rfl rfl ?_
  by_cases c0 : p1 = (0 : Int32)
  · rw [if_pos c0] at hf
    refine z_tableIn 52 dX8_state_1 (by rw [c0]; decide) (by rw [c0]; decide) (by rw [c0]; rfl) (by decide) ?_
    refine z_aload_n 0 dX8_state_52 rfl rfl ?_
    refine z_getA dX8_state_53 zc8 (by decide) wf_X8_28 hf fun x1 hf => ?_
    refine z_getI dX8_state_56 zc0 (by decide) wf_X8_86 hf fun x2 hf => ?_
    exact z_iret dX8_state_59 rfl (by cases hf; rfl)
  · rw [if_neg c0] at hf
    by_cases c1 : p1 = (1 : Int32)
    · rw [if_pos c1] at hf
      refine z_tableIn 60 dX8_state_1 (by rw [c1]; decide) (by rw [c1]; decide) (by rw [c1]; rfl) (by decide) ?_
      refine z_aload_n 0 dX8_state_60 rfl rfl ?_
      refine z_getA dX8_state_61 zc8 (by decide) wf_X8_28 hf fun x3 hf => ?_
      refine z_getI dX8_state_64 zc0 (by decide) wf_X8_83 hf fun x4 hf => ?_
      exact z_iret dX8_state_67 rfl (by cases hf; rfl)
    · rw [if_neg c1] at hf
      by_cases c2 : p1 = (2 : Int32)
      · rw [if_pos c2] at hf
        refine z_tableIn 68 dX8_state_1 (by rw [c2]; decide) (by rw [c2]; decide) (by rw [c2]; rfl) (by decide) ?_
        refine z_aload_n 0 dX8_state_68 rfl rfl ?_
        refine z_getA dX8_state_69 zc8 (by decide) wf_X8_28 hf fun x5 hf => ?_
        refine z_getA dX8_state_72 zc0 (by decide) wf_X8_89 hf fun x6 hf => ?_
        refine z_cV_i (d' := d - 1) (As := []) (rest := []) dX8_state_75 lk_X8_93 rfl hf (fun w1 e1 => zc_X6_size (by omega) e1) (by omega) rfl rfl (Nat.le_of_ble_eq_true rfl) fun y7 hf => ?_
        exact z_iret dX8_state_78 rfl (by cases hf; rfl)
      · rw [if_neg c2] at hf
        by_cases c3 : p1 = (3 : Int32)
        · rw [if_pos c3] at hf
          refine z_tableIn 79 dX8_state_1 (by rw [c3]; decide) (by rw [c3]; decide) (by rw [c3]; rfl) (by decide) ?_
          refine z_aload_n 0 dX8_state_79 rfl rfl ?_
          refine z_getA dX8_state_80 zc8 (by decide) wf_X8_28 hf fun x8 hf => ?_
          refine z_cV_i (d' := d - 1) (As := []) (rest := []) dX8_state_83 lk_X8_98 rfl hf (fun w1 e1 => zc_X0_isOver (by omega) e1) (by omega) rfl rfl (Nat.le_of_ble_eq_true rfl) fun y9 hf => ?_
          refine z_if_eq 93 dX8_state_86 (by decide) hf (fun hf => ?_) (fun hf => ?_)
          · refine z_aload_n 0 dX8_state_93 rfl rfl ?_
            refine z_getA dX8_state_94 zc8 (by decide) wf_X8_28 hf fun x10 hf => ?_
            refine z_getI dX8_state_97 zc0 (by decide) wf_X8_101 hf fun x11 hf => ?_
            exact z_iret dX8_state_100 rfl (by cases hf; rfl)
          · refine z_iconst (-1 : Int32) dX8_state_89 (by decide) ?_
            refine z_goto 100 dX8_state_90 (by decide) ?_
            exact z_iret dX8_state_100 rfl (by cases hf; rfl)
        · rw [if_neg c3] at hf
          by_cases c4 : p1 = (4 : Int32)
          · rw [if_pos c4] at hf
            refine z_tableIn 101 dX8_state_1 (by rw [c4]; decide) (by rw [c4]; decide) (by rw [c4]; rfl) (by decide) ?_
            refine z_aload_n 0 dX8_state_101 rfl rfl ?_
            refine z_getA dX8_state_102 zc8 (by decide) wf_X8_28 hf fun x12 hf => ?_
            refine z_cV_i (d' := d - 1) (As := []) (rest := []) dX8_state_105 lk_X8_98 rfl hf (fun w1 e1 => zc_X0_isOver (by omega) e1) (by omega) rfl rfl (Nat.le_of_ble_eq_true rfl) fun y13 hf => ?_
            refine z_if_eq 115 dX8_state_108 (by decide) hf (fun hf => ?_) (fun hf => ?_)
            · refine z_aload_n 0 dX8_state_115 rfl rfl ?_
              refine z_getA dX8_state_116 zc8 (by decide) wf_X8_28 hf fun x14 hf => ?_
              refine z_getI dX8_state_119 zc0 (by decide) wf_X8_104 hf fun x15 hf => ?_
              exact z_iret dX8_state_122 rfl (by cases hf; rfl)
            · refine z_iconst (-1 : Int32) dX8_state_111 (by decide) ?_
              refine z_goto 122 dX8_state_112 (by decide) ?_
              exact z_iret dX8_state_122 rfl (by cases hf; rfl)
          · rw [if_neg c4] at hf
            by_cases c5 : p1 = (5 : Int32)
            · rw [if_pos c5] at hf
              refine z_tableIn 123 dX8_state_1 (by rw [c5]; decide) (by rw [c5]; decide) (by rw [c5]; rfl) (by decide) ?_
              refine z_aload_n 0 dX8_state_123 rfl rfl ?_
              refine z_getA dX8_state_124 zc8 (by decide) wf_X8_28 hf fun x16 hf => ?_
              refine z_getA dX8_state_127 zc0 (by decide) wf_X8_107 hf fun x17 hf => ?_
              refine z_cV_i (d' := d - 1) (As := []) (rest := []) dX8_state_130 lk_X8_93 rfl hf (fun w1 e1 => zc_X6_size (by omega) e1) (by omega) rfl rfl (Nat.le_of_ble_eq_true rfl) fun y18 hf => ?_
              exact z_iret dX8_state_133 rfl (by cases hf; rfl)
            · rw [if_neg c5] at hf
              by_cases c6 : p1 = (6 : Int32)
              · rw [if_pos c6] at hf
                refine z_tableIn 134 dX8_state_1 (by rw [c6]; decide) (by rw [c6]; decide) (by rw [c6]; rfl) (by decide) ?_
                refine z_aload_n 0 dX8_state_134 rfl rfl ?_
                refine z_getA dX8_state_135 zc8 (by decide) wf_X8_28 hf fun x19 hf => ?_
                refine z_getI dX8_state_138 zc0 (by decide) wf_X8_110 hf fun x20 hf => ?_
                exact z_iret dX8_state_141 rfl (by cases hf; rfl)
              · rw [if_neg c6] at hf
                by_cases c7 : p1 = (7 : Int32)
                · rw [if_pos c7] at hf
                  refine z_tableIn 142 dX8_state_1 (by rw [c7]; decide) (by rw [c7]; decide) (by rw [c7]; rfl) (by decide) ?_
                  refine z_aload_n 0 dX8_state_142 rfl rfl ?_
                  refine z_getA dX8_state_143 zc8 (by decide) wf_X8_28 hf fun x21 hf => ?_
                  refine z_getI dX8_state_146 zc0 (by decide) wf_X8_113 hf fun x22 hf => ?_
                  exact z_iret dX8_state_149 rfl (by cases hf; rfl)
                · rw [if_neg c7] at hf
                  by_cases c8 : p1 = (8 : Int32)
                  · rw [if_pos c8] at hf
                    refine z_tableIn 150 dX8_state_1 (by rw [c8]; decide) (by rw [c8]; decide) (by rw [c8]; rfl) (by decide) ?_
                    refine z_aload_n 0 dX8_state_150 rfl rfl ?_
                    refine z_getA dX8_state_151 zc8 (by decide) wf_X8_28 hf fun x23 hf => ?_
                    refine z_getI dX8_state_154 zc0 (by decide) wf_X8_116 hf fun x24 hf => ?_
                    exact z_iret dX8_state_157 rfl (by cases hf; rfl)
                  · rw [if_neg c8] at hf
                    refine z_tableOut 158 dX8_state_1 (by have q := z_sw_out (x := p1) (lo := (0 : Int)) (n := 9) (by decide) (by decide) (lt_s (i := 8) (lt_s (i := 7) (lt_s (i := 6) (lt_s (i := 5) (lt_s (i := 4) (lt_s (i := 3) (lt_s (i := 2) (lt_s (i := 1) (lt_s (i := 0) lt_0 (fun e => c0 (e.trans (by decide)))) (fun e => c1 (e.trans (by decide)))) (fun e => c2 (e.trans (by decide)))) (fun e => c3 (e.trans (by decide)))) (fun e => c4 (e.trans (by decide)))) (fun e => c5 (e.trans (by decide)))) (fun e => c6 (e.trans (by decide)))) (fun e => c7 (e.trans (by decide)))) (fun e => c8 (e.trans (by decide)))); omega) (by decide) ?_
                    exact z_throw 1 (by decide) dX8_state_158 dX8_state_161 dX8_state_162 dX8_state_165 wc_X8_62 wi_x1 wx_X8_64a wx_X8_64b (by omega) rfl (Nat.le_of_ble_eq_true rfl) (by cases hf; rfl)
set_option maxRecDepth 4000 in
theorem zc_X0_bidder {Γ : zG} {N d : Nat} (hd : 10 ≤ d) {a : Nat} {p1 : Int32} {h : zH} {w : Option Nat × zH} (hf : f_X0_bidder N a p1 h = some w) : Zm Γ m_X0_bidder d [.ref a, .int p1] h (zoN w) := by
  unfold f_X0_bidder at hf
  refine z_meth rfl (plainFor_of_name wpl_X0) (by simp [lg_sl, Value.category, zml, m_X0_bidder]) ?_
  refine z_iload_n 1 dX0_bidder_0 rfl rfl ?_
  refine z_if_lt 26 dX0_bidder_1 (by decide) hf (fun hf => ?_) (fun hf => ?_)
  · refine z_null dX0_bidder_26 ?_
    exact z_aret dX0_bidder_27 rfl (Or.inl ⟨_, rfl⟩) (Or.inl rfl) (by cases hf; rfl)
  · refine z_iload_n 1 dX0_bidder_4 rfl rfl ?_
    refine z_aload_n 0 dX0_bidder_5 rfl rfl ?_
    refine z_getI dX0_bidder_6 zc0 (by decide) wf_X0_56 hf fun x1 hf => ?_
    refine z_icmp_ge 26 dX0_bidder_9 (by decide) hf (fun hf => ?_) (fun hf => ?_)
    · refine z_null dX0_bidder_26 ?_
      exact z_aret dX0_bidder_27 rfl (Or.inl ⟨_, rfl⟩) (Or.inl rfl) (by cases hf; rfl)
    · refine z_iload_n 1 dX0_bidder_12 rfl rfl ?_
      refine z_iconst (5 : Int32) dX0_bidder_13 (by decide) ?_
      refine z_icmp_ge 26 dX0_bidder_14 (by decide) hf (fun hf => ?_) (fun hf => ?_)
      · refine z_null dX0_bidder_26 ?_
        exact z_aret dX0_bidder_27 rfl (Or.inl ⟨_, rfl⟩) (Or.inl rfl) (by cases hf; rfl)
      · refine z_aload_n 0 dX0_bidder_17 rfl rfl ?_
        refine z_getA dX0_bidder_18 zc0 (by decide) wf_X0_17 hf fun x2 hf => ?_
        refine z_iload_n 1 dX0_bidder_21 rfl rfl ?_
        refine z_aaload dX0_bidder_22 hf fun x3 hf => ?_
        refine z_goto 27 dX0_bidder_23 (by decide) ?_
        exact z_aret dX0_bidder_27 rfl (Or.inl ⟨_, rfl⟩) (Or.inr ⟨_, rfl⟩) (by cases hf; rfl)
set_option maxRecDepth 4000 in
theorem zc_X8_existing {Γ : zG} {N d : Nat} (hd : 11 ≤ d) {a : Nat} {p1 : Int32} {h : zH} {w : (Nat ⊕ Nat) × zH} (hf : f_X8_existing N a p1 h = some w) : Zm Γ m_X8_existing d [.ref a, .int p1] h (zoTA w) := by
  unfold f_X8_existing at hf
  refine z_meth rfl (plainFor_of_name wpl_X8) (by simp [lg_sl, Value.category, zml, m_X8_existing]) ?_
  refine z_aload_n 0 dX8_existing_0 rfl rfl ?_
  refine z_getA dX8_existing_1 zc8 (by decide) wf_X8_28 hf fun x1 hf => ?_
  refine z_iload_n 1 dX8_existing_4 rfl rfl ?_
  refine z_cV_n (d' := d - 1) (As := [.int p1]) (rest := []) dX8_existing_5 lk_X8_254 rfl hf (fun w1 e1 => zc_X0_bidder (by omega) e1) (by omega) rfl rfl (Nat.le_of_ble_eq_true rfl) (fun y2 hf => ?_) (fun y2 x3 hf => ?_)
  · refine z_astore_nN [(2, .null), (0, .ref a), (1, .int p1)] dX8_existing_8 rfl (by decide) rfl ?_
    refine z_aload_nN 0 dX8_existing_9 rfl rfl ?_
    refine z_ifnonnullN dX8_existing_10 ?_
    exact z_throw 2 (by decide) dX8_existing_13 dX8_existing_16 dX8_existing_17 dX8_existing_20 wc_X8_257 wi_x2 wx_X8_259a wx_X8_259b (by omega) rfl (Nat.le_of_ble_eq_true rfl) (by cases hf; rfl)
  · refine z_astore_n [(2, .ref x3), (0, .ref a), (1, .int p1)] dX8_existing_8 rfl (by decide) rfl ?_
    refine z_aload_n 0 dX8_existing_9 rfl rfl ?_
    refine z_ifnonnull 21 dX8_existing_10 (by decide) ?_
    refine z_aload_n 0 dX8_existing_21 rfl rfl ?_
    exact z_aret dX8_existing_22 rfl (Or.inl ⟨_, rfl⟩) (Or.inr ⟨_, rfl⟩) (by cases hf; rfl)
set_option maxRecDepth 4000 in
theorem zc_X8_player {Γ : zG} {N d : Nat} (hd : 12 ≤ d) {a : Nat} {p1 : Int32} {p2 : Int32} {h : zH} {w : (Int32 ⊕ Nat) × zH} (hf : f_X8_player N a p1 p2 h = some w) : Zm Γ m_X8_player d [.ref a, .int p1, .int p2] h (zoTI w) := by
  unfold f_X8_player at hf
  refine z_meth rfl (plainFor_of_name wpl_X8) (by simp [lg_sl, Value.category, zml, m_X8_player]) ?_
  refine z_aload_n 0 dX8_player_0 rfl rfl ?_
  refine z_iload_n 1 dX8_player_1 rfl rfl ?_
  refine z_cV_ta (d' := d - 1) (As := [.int p1]) (rest := []) dX8_player_2 lk_X8_119 rfl hf (fun w1 e1 => zc_X8_existing (by omega) e1) (by omega) rfl rfl (Nat.le_of_ble_eq_true rfl) (fun y1 x2 hf => ?_) (fun y1 k3 hf => ?_)
  · refine z_astore_n [(3, .ref x2), (0, .ref a), (1, .int p1), (2, .int p2)] dX8_player_5 rfl (by decide) rfl ?_
    refine z_iload_n 3 dX8_player_6 rfl rfl ?_
    by_cases c0 : p2 = (0 : Int32)
    · rw [if_pos c0] at hf
      refine z_tableIn 32 dX8_player_7 (by rw [c0]; decide) (by rw [c0]; decide) (by rw [c0]; rfl) (by decide) ?_
      refine z_aload_n 0 dX8_player_32 rfl rfl ?_
      refine z_getI dX8_player_33 zc1 (by decide) wf_X8_123 hf fun x4 hf => ?_
      exact z_iret dX8_player_36 rfl (by cases hf; rfl)
    · rw [if_neg c0] at hf
      by_cases c1 : p2 = (1 : Int32)
      · rw [if_pos c1] at hf
        refine z_tableIn 37 dX8_player_7 (by rw [c1]; decide) (by rw [c1]; decide) (by rw [c1]; rfl) (by decide) ?_
        refine z_aload_n 0 dX8_player_37 rfl rfl ?_
        refine z_getA dX8_player_38 zc1 (by decide) wf_X8_128 hf fun x5 hf => ?_
        refine z_cV_i (d' := d - 1) (As := []) (rest := []) dX8_player_41 lk_X8_93 rfl hf (fun w1 e1 => zc_X6_size (by omega) e1) (by omega) rfl rfl (Nat.le_of_ble_eq_true rfl) fun y6 hf => ?_
        exact z_iret dX8_player_44 rfl (by cases hf; rfl)
      · rw [if_neg c1] at hf
        by_cases c2 : p2 = (2 : Int32)
        · rw [if_pos c2] at hf
          refine z_tableIn 45 dX8_player_7 (by rw [c2]; decide) (by rw [c2]; decide) (by rw [c2]; rfl) (by decide) ?_
          refine z_aload_n 0 dX8_player_45 rfl rfl ?_
          refine z_getI dX8_player_46 zc1 (by decide) wf_X8_131 hf fun x7 hf => ?_
          exact z_iret dX8_player_49 rfl (by cases hf; rfl)
        · rw [if_neg c2] at hf
          refine z_tableOut 50 dX8_player_7 (by have q := z_sw_out (x := p2) (lo := (0 : Int)) (n := 3) (by decide) (by decide) (lt_s (i := 2) (lt_s (i := 1) (lt_s (i := 0) lt_0 (fun e => c0 (e.trans (by decide)))) (fun e => c1 (e.trans (by decide)))) (fun e => c2 (e.trans (by decide)))); omega) (by decide) ?_
          exact z_throw 1 (by decide) dX8_player_50 dX8_player_53 dX8_player_54 dX8_player_57 wc_X8_62 wi_x1 wx_X8_64a wx_X8_64b (by omega) rfl (Nat.le_of_ble_eq_true rfl) (by cases hf; rfl)
  · exact zx_out rfl (by cases hf; rfl)
set_option maxRecDepth 4000 in
theorem zc_X6_at {Γ : zG} {N d : Nat} (hd : 11 ≤ d) {a : Nat} {p1 : Int32} {h : zH} {w : Int32 × zH} (hf : f_X6_at N a p1 h = some w) : Zm Γ m_X6_at d [.ref a, .int p1] h (zoI w) := by
  unfold f_X6_at at hf
  refine z_meth rfl (plainFor_of_name wpl_X6) (by simp [lg_sl, Value.category, zml, m_X6_at]) ?_
  refine z_aload_n 0 dX6_at_0 rfl rfl ?_
  refine z_iload_n 1 dX6_at_1 rfl rfl ?_
  refine z_cV_i (d' := d - 1) (As := [.int p1]) (rest := []) dX6_at_2 lk_X6_23 rfl hf (fun w1 e1 => zc_X6_holds (by omega) e1) (by omega) rfl rfl (Nat.le_of_ble_eq_true rfl) fun y1 hf => ?_
  refine z_if_eq 17 dX6_at_5 (by decide) hf (fun hf => ?_) (fun hf => ?_)
  · refine z_iconst (0 : Int32) dX6_at_17 (by decide) ?_
    exact z_iret dX6_at_18 rfl (by cases hf; rfl)
  · refine z_aload_n 0 dX6_at_8 rfl rfl ?_
    refine z_getA dX6_at_9 zc6 (by decide) wf_X6_13 hf fun x2 hf => ?_
    refine z_iload_n 1 dX6_at_12 rfl rfl ?_
    refine z_iaload dX6_at_13 hf fun x3 hf => ?_
    refine z_goto 18 dX6_at_14 (by decide) ?_
    exact z_iret dX6_at_18 rfl (by cases hf; rfl)

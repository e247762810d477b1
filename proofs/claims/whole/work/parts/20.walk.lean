set_option maxRecDepth 4000 in
theorem zc_J6_bitCount_0f7a4 {Γ : zG} {N d : Nat} (hd : 10 ≤ d) {p1 : Int32} {h : zH} {w : Int32 × zH} (hf : f_J6_bitCount_0f7a4 N p1 h = some w) : Zm Γ m_J6_bitCount_0f7a4 d [.int p1] h (zoI w) := by
  unfold f_J6_bitCount_0f7a4 at hf
  refine z_meth rfl (plainFor_of_name wpl_J6) (by simp [lg_sl, Value.category, zml, m_J6_bitCount_0f7a4]) ?_
  refine z_iload_n 0 dJ6_bitCount_0f7a4_0 rfl rfl ?_
  refine z_iload_n 0 dJ6_bitCount_0f7a4_1 rfl rfl ?_
  refine z_iconst (1 : Int32) dJ6_bitCount_0f7a4_2 (by decide) ?_
  refine z_iushr dJ6_bitCount_0f7a4_3 ?_
  refine z_ldcw (1431655765 : Int32) dJ6_bitCount_0f7a4_4 wk_J6_265 ?_
  refine z_iand dJ6_bitCount_0f7a4_7 ?_
  refine z_isub dJ6_bitCount_0f7a4_8 ?_
  refine z_istore_n [(0, .int (p1 - ((p1.toUInt32 >>> ((1 : Int32).toUInt32 &&& Int32.toUInt32 31)).toInt32 &&& (1431655765 : Int32))))] dJ6_bitCount_0f7a4_9 rfl (by decide) rfl ?_
  refine z_iload_n 0 dJ6_bitCount_0f7a4_10 rfl rfl ?_
  refine z_ldcw (858993459 : Int32) dJ6_bitCount_0f7a4_11 wk_J6_266 ?_
  refine z_iand dJ6_bitCount_0f7a4_14 ?_
  refine z_iload_n 0 dJ6_bitCount_0f7a4_15 rfl rfl ?_
  refine z_iconst (2 : Int32) dJ6_bitCount_0f7a4_16 (by decide) ?_
  refine z_iushr dJ6_bitCount_0f7a4_17 ?_
  refine z_ldcw (858993459 : Int32) dJ6_bitCount_0f7a4_18 wk_J6_266 ?_
  refine z_iand dJ6_bitCount_0f7a4_21 ?_
  refine z_iadd dJ6_bitCount_0f7a4_22 ?_
  refine z_istore_n [(0, .int (((p1 - ((p1.toUInt32 >>> ((1 : Int32).toUInt32 &&& Int32.toUInt32 31)).toInt32 &&& (1431655765 : Int32))) &&& (858993459 : Int32)) + (((p1 - ((p1.toUInt32 >>> ((1 : Int32).toUInt32 &&& Int32.toUInt32 31)).toInt32 &&& (1431655765 : Int32))).toUInt32 >>> ((2 : Int32).toUInt32 &&& Int32.toUInt32 31)).toInt32 &&& (858993459 : Int32))))] dJ6_bitCount_0f7a4_23 rfl (by decide) rfl ?_
  refine z_iload_n 0 dJ6_bitCount_0f7a4_24 rfl rfl ?_
  refine z_iload_n 0 dJ6_bitCount_0f7a4_25 rfl rfl ?_
  refine z_iconst (4 : Int32) dJ6_bitCount_0f7a4_26 (by decide) ?_
  refine z_iushr dJ6_bitCount_0f7a4_27 ?_
  refine z_iadd dJ6_bitCount_0f7a4_28 ?_
  refine z_ldcw (252645135 : Int32) dJ6_bitCount_0f7a4_29 wk_J6_267 ?_
  refine z_iand dJ6_bitCount_0f7a4_32 ?_
  refine z_istore_n [(0, .int (((((p1 - ((p1.toUInt32 >>> ((1 : Int32).toUInt32 &&& Int32.toUInt32 31)).toInt32 &&& (1431655765 : Int32))) &&& (858993459 : Int32)) + (((p1 - ((p1.toUInt32 >>> ((1 : Int32).toUInt32 &&& Int32.toUInt32 31)).toInt32 &&& (1431655765 : Int32))).toUInt32 >>> ((2 : Int32).toUInt32 &&& Int32.toUInt32 31)).toInt32 &&& (858993459 : Int32))) + ((((p1 - ((p1.toUInt32 >>> ((1 : Int32).toUInt32 &&& Int32.toUInt32 31)).toInt32 &&& (1431655765 : Int32))) &&& (858993459 : Int32)) + (((p1 - ((p1.toUInt32 >>> ((1 : Int32).toUInt32 &&& Int32.toUInt32 31)).toInt32 &&& (1431655765 : Int32))).toUInt32 >>> ((2 : Int32).toUInt32 &&& Int32.toUInt32 31)).toInt32 &&& (858993459 : Int32))).toUInt32 >>> ((4 : Int32).toUInt32 &&& Int32.toUInt32 31)).toInt32) &&& (252645135 : Int32)))] dJ6_bitCount_0f7a4_33 rfl (by decide) rfl ?_
  refine z_iload_n 0 dJ6_bitCount_0f7a4_34 rfl rfl ?_
  refine z_iload_n 0 dJ6_bitCount_0f7a4_35 rfl rfl ?_
  refine z_bipush (8 : Int32) dJ6_bitCount_0f7a4_36 (by decide) ?_
  refine z_iushr dJ6_bitCount_0f7a4_38 ?_
  refine z_iadd dJ6_bitCount_0f7a4_39 ?_
  refine z_istore_n [(0, .int ((((((p1 - ((p1.toUInt32 >>> ((1 : Int32).toUInt32 &&& Int32.toUInt32 31)).toInt32 &&& (1431655765 : Int32))) &&& (858993459 : Int32)) + (((p1 - ((p1.toUInt32 >>> ((1 : Int32).toUInt32 &&& Int32.toUInt32 31)).toInt32 &&& (1431655765 : Int32))).toUInt32 >>> ((2 : Int32).toUInt32 &&& Int32.toUInt32 31)).toInt32 &&& (858993459 : Int32))) + ((((p1 - ((p1.toUInt32 >>> ((1 : Int32).toUInt32 &&& Int32.toUInt32 31)).toInt32 &&& (1431655765 : Int32))) &&& (858993459 : Int32)) + (((p1 - ((p1.toUInt32 >>> ((1 : Int32).toUInt32 &&& Int32.toUInt32 31)).toInt32 &&& (1431655765 : Int32))).toUInt32 >>> ((2 : Int32).toUInt32 &&& Int32.toUInt32 31)).toInt32 &&& (858993459 : Int32))).toUInt32 >>> ((4 : Int32).toUInt32 &&& Int32.toUInt32 31)).toInt32) &&& (252645135 : Int32)) + ((((((p1 - ((p1.toUInt32 >>> ((1 : Int32).toUInt32 &&& Int32.toUInt32 31)).toInt32 &&& (1431655765 : Int32))) &&& (858993459 : Int32)) + (((p1 - ((p1.toUInt32 >>> ((1 : Int32).toUInt32 &&& Int32.toUInt32 31)).toInt32 &&& (1431655765 : Int32))).toUInt32 >>> ((2 : Int32).toUInt32 &&& Int32.toUInt32 31)).toInt32 &&& (858993459 : Int32))) + ((((p1 - ((p1.toUInt32 >>> ((1 : Int32).toUInt32 &&& Int32.toUInt32 31)).toInt32 &&& (1431655765 : Int32))) &&& (858993459 : Int32)) + (((p1 - ((p1.toUInt32 >>> ((1 : Int32).toUInt32 &&& Int32.toUInt32 31)).toInt32 &&& (1431655765 : Int32))).toUInt32 >>> ((2 : Int32).toUInt32 &&& Int32.toUInt32 31)).toInt32 &&& (858993459 : Int32))).toUInt32 >>> ((4 : Int32).toUInt32 &&& Int32.toUInt32 31)).toInt32) &&& (252645135 : Int32)).toUInt32 >>> ((8 : Int32).toUInt32 &&& Int32.toUInt32 31)).toInt32))] dJ6_bitCount_0f7a4_40 rfl (by decide) rfl ?_
  refine z_iload_n 0 dJ6_bitCount_0f7a4_41 rfl rfl ?_
  refine z_iload_n 0 dJ6_bitCount_0f7a4_42 rfl rfl ?_
  refine z_bipush (16 : Int32) dJ6_bitCount_0f7a4_43 (by decide) ?_
  refine z_iushr dJ6_bitCount_0f7a4_45 ?_
  refine z_iadd dJ6_bitCount_0f7a4_46 ?_
  refine z_istore_n [(0, .int (((((((p1 - ((p1.toUInt32 >>> ((1 : Int32).toUInt32 &&& Int32.toUInt32 31)).toInt32 &&& (1431655765 : Int32))) &&& (858993459 : Int32)) + (((p1 - ((p1.toUInt32 >>> ((1 : Int32).toUInt32 &&& Int32.toUInt32 31)).toInt32 &&& (1431655765 : Int32))).toUInt32 >>> ((2 : Int32).toUInt32 &&& Int32.toUInt32 31)).toInt32 &&& (858993459 : Int32))) + ((((p1 - ((p1.toUInt32 >>> ((1 : Int32).toUInt32 &&& Int32.toUInt32 31)).toInt32 &&& (1431655765 : Int32))) &&& (858993459 : Int32)) + (((p1 - ((p1.toUInt32 >>> ((1 : Int32).toUInt32 &&& Int32.toUInt32 31)).toInt32 &&& (1431655765 : Int32))).toUInt32 >>> ((2 : Int32).toUInt32 &&& Int32.toUInt32 31)).toInt32 &&& (858993459 : Int32))).toUInt32 >>> ((4 : Int32).toUInt32 &&& Int32.toUInt32 31)).toInt32) &&& (252645135 : Int32)) + ((((((p1 - ((p1.toUInt32 >>> ((1 : Int32).toUInt32 &&& Int32.toUInt32 31)).toInt32 &&& (1431655765 : Int32))) &&& (858993459 : Int32)) + (((p1 - ((p1.toUInt32 >>> ((1 : Int32).toUInt32 &&& Int32.toUInt32 31)).toInt32 &&& (1431655765 : Int32))).toUInt32 >>> ((2 : Int32).toUInt32 &&& Int32.toUInt32 31)).toInt32 &&& (858993459 : Int32))) + ((((p1 - ((p1.toUInt32 >>> ((1 : Int32).toUInt32 &&& Int32.toUInt32 31)).toInt32 &&& (1431655765 : Int32))) &&& (858993459 : Int32)) + (((p1 - ((p1.toUInt32 >>> ((1 : Int32).toUInt32 &&& Int32.toUInt32 31)).toInt32 &&& (1431655765 : Int32))).toUInt32 >>> ((2 : Int32).toUInt32 &&& Int32.toUInt32 31)).toInt32 &&& (858993459 : Int32))).toUInt32 >>> ((4 : Int32).toUInt32 &&& Int32.toUInt32 31)).toInt32) &&& (252645135 : Int32)).toUInt32 >>> ((8 : Int32).toUInt32 &&& Int32.toUInt32 31)).toInt32) + (((((((p1 - ((p1.toUInt32 >>> ((1 : Int32).toUInt32 &&& Int32.toUInt32 31)).toInt32 &&& (1431655765 : Int32))) &&& (858993459 : Int32)) + (((p1 - ((p1.toUInt32 >>> ((1 : Int32).toUInt32 &&& Int32.toUInt32 31)).toInt32 &&& (1431655765 : Int32))).toUInt32 >>> ((2 : Int32).toUInt32 &&& Int32.toUInt32 31)).toInt32 &&& (858993459 : Int32))) + ((((p1 - ((p1.toUInt32 >>> ((1 : Int32).toUInt32 &&& Int32.toUInt32 31)).toInt32 &&& (1431655765 : Int32))) &&& (858993459 : Int32)) + (((p1 - ((p1.toUInt32 >>> ((1 : Int32).toUInt32 &&& Int32.toUInt32 31)).toInt32 &&& (1431655765 : Int32))).toUInt32 >>> ((2 : Int32).toUInt32 &&& Int32.toUInt32 31)).toInt32 &&& (858993459 : Int32))).toUInt32 >>> ((4 : Int32).toUInt32 &&& Int32.toUInt32 31)).toInt32) &&& (252645135 : Int32)) + ((((((p1 - ((p1.toUInt32 >>> ((1 : Int32).toUInt32 &&& Int32.toUInt32 31)).toInt32 &&& (1431655765 : Int32))) &&& (858993459 : Int32)) + (((p1 - ((p1.toUInt32 >>> ((1 : Int32).toUInt32 &&& Int32.toUInt32 31)).toInt32 &&& (1431655765 : Int32))).toUInt32 >>> ((2 : Int32).toUInt32 &&& Int32.toUInt32 31)).toInt32 &&& (858993459 : Int32))) + ((((p1 - ((p1.toUInt32 >>> ((1 : Int32).toUInt32 &&& Int32.toUInt32 31)).toInt32 &&& (1431655765 : Int32))) &&& (858993459 : Int32)) + (((p1 - ((p1.toUInt32 >>> ((1 : Int32).toUInt32 &&& Int32.toUInt32 31)).toInt32 &&& (1431655765 : Int32))).toUInt32 >>> ((2 : Int32).toUInt32 &&& Int32.toUInt32 31)).toInt32 &&& (858993459 : Int32))).toUInt32 >>> ((4 : Int32).toUInt32 &&& Int32.toUInt32 31)).toInt32) &&& (252645135 : Int32)).toUInt32 >>> ((8 : Int32).toUInt32 &&& Int32.toUInt32 31)).toInt32).toUInt32 >>> ((16 : Int32).toUInt32 &&& Int32.toUInt32 31)).toInt32))] dJ6_bitCount_0f7a4_47 rfl (by decide) rfl ?_
  refine z_iload_n 0 dJ6_bitCount_0f7a4_48 rfl rfl ?_
  refine z_bipush (63 : Int32) dJ6_bitCount_0f7a4_49 (by decide) ?_
  refine z_iand dJ6_bitCount_0f7a4_51 ?_
  exact z_iret dJ6_bitCount_0f7a4_52 rfl (by cases hf; rfl)
set_option maxRecDepth 4000 in
theorem zl_X2_init_26 {Γ : zG} {N d : Nat} {h0 : zH} (hd : 11 ≤ d) {v0 : Nat}  {w : zH}   : ∀ (n : Nat) (v1 : Int32) (v2 : Int32) (h : zH), f_X2_init_l26 N v0 n v1 v2 h = some w → Z Γ m_X2_init d h0 (zoV w) 26 [(0, .ref v0), (1, .int v1), (2, .int v2)] [] h := by
  intro n
  induction n with
  | zero => intro v1 v2 h hf; cases hf
  | succ n ih =>
    intro v1 v2 h hf
    rw [f_X2_init_l26] at hf
    refine z_iload_n 2 dX2_init_26 rfl rfl ?_
    refine z_sipush (625 : Int32) dX2_init_27 (by decide) ?_
    refine z_icmp_ge 181 dX2_init_30 (by decide) hf (fun hf => ?_) (fun hf => ?_)
    · exact z_vret dX2_init_181 rfl (by cases hf; rfl)
    · refine z_iload_n 1 dX2_init_33 rfl rfl ?_
      refine z_bipush (120 : Int32) dX2_init_34 (by decide) ?_
      refine z_icmp_ge 181 dX2_init_36 (by decide) hf (fun hf => ?_) (fun hf => ?_)
      · exact z_vret dX2_init_181 rfl (by cases hf; rfl)
      · refine z_iconst (4 : Int32) dX2_init_39 (by decide) ?_
        refine z_iload_n 2 dX2_init_40 rfl rfl ?_
        refine z_bipush (125 : Int32) dX2_init_41 (by decide) ?_
        refine z_idiv dX2_init_43 hf fun x5 hf => ?_
        refine z_isub dX2_init_44 ?_
        refine z_istore_n [(3, .int ((4 : Int32) - x5)), (0, .ref v0), (1, .int v1), (2, .int v2)] dX2_init_45 rfl (by decide) rfl ?_
        refine z_iconst (4 : Int32) dX2_init_46 (by decide) ?_
        refine z_iload_n 3 dX2_init_47 rfl rfl ?_
        refine z_bipush (25 : Int32) dX2_init_48 (by decide) ?_
        refine z_idiv dX2_init_50 hf fun x6 hf => ?_
        refine z_iconst (5 : Int32) dX2_init_51 (by decide) ?_
        refine z_irem dX2_init_52 hf fun x7 hf => ?_
        refine z_isub dX2_init_53 ?_
        refine z_istore [(4, .int ((4 : Int32) - x7)), (3, .int ((4 : Int32) - x5)), (0, .ref v0), (1, .int v1), (2, .int v2)] dX2_init_54 (by decide) rfl ?_
        refine z_iconst (4 : Int32) dX2_init_56 (by decide) ?_
        refine z_iload_n 4 dX2_init_57 rfl rfl ?_
        refine z_iconst (5 : Int32) dX2_init_58 (by decide) ?_
        refine z_idiv dX2_init_59 hf fun x8 hf => ?_
        refine z_iconst (5 : Int32) dX2_init_60 (by decide) ?_
        refine z_irem dX2_init_61 hf fun x9 hf => ?_
        refine z_isub dX2_init_62 ?_
        refine z_istore [(5, .int ((4 : Int32) - x9)), (4, .int ((4 : Int32) - x7)), (3, .int ((4 : Int32) - x5)), (0, .ref v0), (1, .int v1), (2, .int v2)] dX2_init_63 (by decide) rfl ?_
        refine z_iconst (4 : Int32) dX2_init_65 (by decide) ?_
        refine z_iload_n 5 dX2_init_66 rfl rfl ?_
        refine z_iconst (5 : Int32) dX2_init_67 (by decide) ?_
        refine z_irem dX2_init_68 hf fun x10 hf => ?_
        refine z_isub dX2_init_69 ?_
        refine z_istore [(6, .int ((4 : Int32) - x10)), (5, .int ((4 : Int32) - x9)), (4, .int ((4 : Int32) - x7)), (3, .int ((4 : Int32) - x5)), (0, .ref v0), (1, .int v1), (2, .int v2)] dX2_init_70 (by decide) rfl ?_
        refine z_iconst (1 : Int32) dX2_init_72 (by decide) ?_
        refine z_iload_n 3 dX2_init_73 rfl rfl ?_
        refine z_ishl dX2_init_74 ?_
        refine z_iconst (1 : Int32) dX2_init_75 (by decide) ?_
        refine z_iload 2 dX2_init_76 rfl ?_
        refine z_ishl dX2_init_78 ?_
        refine z_ior dX2_init_79 ?_
        refine z_iconst (1 : Int32) dX2_init_80 (by decide) ?_
        refine z_iload 1 dX2_init_81 rfl ?_
        refine z_ishl dX2_init_83 ?_
        refine z_ior dX2_init_84 ?_
        refine z_iconst (1 : Int32) dX2_init_85 (by decide) ?_
        refine z_iload 0 dX2_init_86 rfl ?_
        refine z_ishl dX2_init_88 ?_
        refine z_ior dX2_init_89 ?_
        refine z_cS_i (d' := d - 1) (As := [.int (((((1 : Int32) <<< (((4 : Int32) - x5) &&& 31)) ||| ((1 : Int32) <<< (((4 : Int32) - x7) &&& 31))) ||| ((1 : Int32) <<< (((4 : Int32) - x9) &&& 31))) ||| ((1 : Int32) <<< (((4 : Int32) - x10) &&& 31)))]) (rest := []) dX2_init_90 lk_X2_18 hf (fun w1 e1 => zc_J6_bitCount_0f7a4 (by omega) e1) (by omega) rfl rfl (Nat.le_of_ble_eq_true rfl) fun y11 hf => ?_
        refine z_iconst (4 : Int32) dX2_init_93 (by decide) ?_
        refine zjn_elim (P := fun (j175 : Int32 → Int32 → zH → Option (zH)) => ∀ (v1 : Int32) (v2 : Int32) (h : zH), j175 v1 v2 h = some w → Z Γ m_X2_init d h0 (zoV w) 175 [(0, .ref v0), (1, .int v1), (2, .int v2)] [] h) hf (fun v1 v2 h hf => ?_) (fun j175 hj175 hf => ?_)
        · refine z_iinc (v2 + (1 : Int32)) 2 [(2, .int (v2 + (1 : Int32))), (0, .ref v0), (1, .int v1)] dX2_init_175 rfl rfl (by decide) rfl ?_
          refine z_goto 26 dX2_init_178 (by decide) ?_
          exact Z.sub [1, 2, 0] rfl (ih v1 (v2 + (1 : Int32)) h hf)
        · refine z_icmp_ne 175 dX2_init_94 (by decide) hf (fun hf => ?_) (fun hf => ?_)
          · refine z_iload_n 5 dX2_init_97 rfl rfl ?_
            refine z_iconst (5 : Int32) dX2_init_98 (by decide) ?_
            refine z_imul dX2_init_99 ?_
            refine z_istore [(7, .int (v1 * (5 : Int32))), (6, .int ((4 : Int32) - x10)), (5, .int ((4 : Int32) - x9)), (4, .int ((4 : Int32) - x7)), (3, .int ((4 : Int32) - x5)), (0, .ref v0), (1, .int v1), (2, .int v2)] dX2_init_100 (by decide) rfl ?_
            refine z_aload_n 5 dX2_init_102 rfl rfl ?_
            refine z_getA dX2_init_103 zc2 (by decide) wf_X2_9 hf fun x12 hf => ?_
            refine z_iload 0 dX2_init_106 rfl ?_
            refine z_bipush (10 : Int32) dX2_init_108 (by decide) ?_
            refine z_iload_n 4 dX2_init_110 rfl rfl ?_
            refine z_isub dX2_init_111 ?_
            refine z_iload 3 dX2_init_112 rfl ?_
            refine z_isub dX2_init_114 ?_
            refine z_iload 2 dX2_init_115 rfl ?_
            refine z_isub dX2_init_117 ?_
            refine z_iload 1 dX2_init_118 rfl ?_
            refine z_isub dX2_init_120 ?_
            refine z_iastore dX2_init_121 hf fun h13 hf => ?_
            refine z_aload_n 5 dX2_init_122 rfl rfl ?_
            refine z_getA dX2_init_123 zc2 (by decide) wf_X2_9 hf fun x14 hf => ?_
            refine z_iload 0 dX2_init_126 rfl ?_
            refine z_iconst (1 : Int32) dX2_init_128 (by decide) ?_
            refine z_iadd dX2_init_129 ?_
            refine z_iload 1 dX2_init_130 rfl ?_
            refine z_iastore dX2_init_132 hf fun h15 hf => ?_
            refine z_aload_n 5 dX2_init_133 rfl rfl ?_
            refine z_getA dX2_init_134 zc2 (by decide) wf_X2_9 hf fun x16 hf => ?_
            refine z_iload 0 dX2_init_137 rfl ?_
            refine z_iconst (2 : Int32) dX2_init_139 (by decide) ?_
            refine z_iadd dX2_init_140 ?_
            refine z_iload 2 dX2_init_141 rfl ?_
            refine z_iastore dX2_init_143 hf fun h17 hf => ?_
            refine z_aload_n 5 dX2_init_144 rfl rfl ?_
            refine z_getA dX2_init_145 zc2 (by decide) wf_X2_9 hf fun x18 hf => ?_
            refine z_iload 0 dX2_init_148 rfl ?_
            refine z_iconst (3 : Int32) dX2_init_150 (by decide) ?_
            refine z_iadd dX2_init_151 ?_
            refine z_iload 3 dX2_init_152 rfl ?_
            refine z_iastore dX2_init_154 hf fun h19 hf => ?_
            refine z_aload_n 5 dX2_init_155 rfl rfl ?_
            refine z_getA dX2_init_156 zc2 (by decide) wf_X2_9 hf fun x20 hf => ?_
            refine z_iload 0 dX2_init_159 rfl ?_
            refine z_iconst (4 : Int32) dX2_init_161 (by decide) ?_
            refine z_iadd dX2_init_162 ?_
            refine z_iload_n 4 dX2_init_163 rfl rfl ?_
            refine z_iastore dX2_init_164 hf fun h21 hf => ?_
            refine z_aload_n 5 dX2_init_165 rfl rfl ?_
            refine z_getA dX2_init_166 zc2 (by decide) wf_X2_15 hf fun x22 hf => ?_
            refine z_iload_n 7 dX2_init_169 rfl rfl ?_
            refine z_iload_n 6 dX2_init_170 rfl rfl ?_
            refine z_iastore dX2_init_171 hf fun h23 hf => ?_
            refine z_iinc (v1 + (1 : Int32)) 6 [(1, .int (v1 + (1 : Int32))), (7, .int (v1 * (5 : Int32))), (6, .int ((4 : Int32) - x10)), (5, .int ((4 : Int32) - x9)), (4, .int ((4 : Int32) - x7)), (3, .int ((4 : Int32) - x5)), (0, .ref v0), (2, .int v2)] dX2_init_172 rfl rfl (by decide) rfl ?_
            exact Z.sub [6, 0, 7] rfl (hj175 (v1 + (1 : Int32)) v2 h23 hf)
          · exact Z.sub [4, 5, 6] rfl (hj175 v1 v2 y11.2 hf)
set_option maxRecDepth 4000 in
theorem zc_X2_init {Γ : zG} {N d : Nat} (hd : 11 ≤ d) {a : Nat} {h : zH} {w : zH} (hf : f_X2_init N a h = some w) : Zm Γ m_X2_init d [.ref a] h (zoV w) := by
  unfold f_X2_init at hf
  refine z_meth rfl (plainFor_of_name wpl_X2) (by simp [lg_sl, Value.category, zml, m_X2_init]) ?_
  refine z_aload_n 0 dX2_init_0 rfl rfl ?_
  refine z_objInit dX2_init_1 wl_X2_3 wi_obj wi_objc (by omega) (Nat.le_of_ble_eq_true rfl) ?_
  refine z_aload_n 0 dX2_init_4 rfl rfl ?_
  refine z_sipush (600 : Int32) dX2_init_5 (by decide) ?_
  refine z_nwI dX2_init_8 wa_I hf fun y1 hf => ?_
  refine z_putB dX2_init_10 zc2 (by decide) wf_X2_9 (Or.inr ⟨rfl, rfl, rfl⟩) rfl rfl hf fun h2 hf => ?_
  refine z_aload_n 0 dX2_init_13 rfl rfl ?_
  refine z_sipush (625 : Int32) dX2_init_14 (by decide) ?_
  refine z_nwI dX2_init_17 wa_I hf fun y3 hf => ?_
  refine z_putB dX2_init_19 zc2 (by decide) wf_X2_15 (Or.inr ⟨rfl, rfl, rfl⟩) rfl rfl hf fun h4 hf => ?_
  refine z_iconst (0 : Int32) dX2_init_22 (by decide) ?_
  refine z_istore_n [(1, .int (0 : Int32)), (0, .ref a)] dX2_init_23 rfl (by decide) rfl ?_
  refine z_iconst (0 : Int32) dX2_init_24 (by decide) ?_
  refine z_istore_n [(2, .int (0 : Int32)), (1, .int (0 : Int32)), (0, .ref a)] dX2_init_25 rfl (by decide) rfl ?_
  refine Z.sub [2, 1, 0] rfl (zl_X2_init_26 hd  N (0 : Int32) (0 : Int32) h4 hf)
set_option maxRecDepth 4000 in
theorem zc_J9_max_7cf53 {Γ : zG} {N d : Nat} (hd : 10 ≤ d) {p1 : Int32} {p2 : Int32} {h : zH} {w : Int32 × zH} (hf : f_J9_max_7cf53 N p1 p2 h = some w) : Zm Γ m_J9_max_7cf53 d [.int p1, .int p2] h (zoI w) := by
  unfold f_J9_max_7cf53 at hf
  refine z_meth rfl (by decide +kernel) (by simp [lg_sl, Value.category, zml, m_J9_max_7cf53]) ?_
  refine z_iload_n 0 dJ9_max_7cf53_0 rfl rfl ?_
  refine z_iload_n 1 dJ9_max_7cf53_1 rfl rfl ?_
  refine z_icmp_lt 9 dJ9_max_7cf53_2 (by decide) hf (fun hf => ?_) (fun hf => ?_)
  · refine z_iload_n 1 dJ9_max_7cf53_9 rfl rfl ?_
    exact z_iret dJ9_max_7cf53_10 rfl (by cases hf; rfl)
  · refine z_iload_n 0 dJ9_max_7cf53_5 rfl rfl ?_
    refine z_goto 10 dJ9_max_7cf53_6 (by decide) ?_
    exact z_iret dJ9_max_7cf53_10 rfl (by cases hf; rfl)
set_option maxRecDepth 4000 in
theorem zc_X6_init {Γ : zG} {N d : Nat} (hd : 11 ≤ d) {a : Nat} {p1 : Int32} {h : zH} {w : zH} (hf : f_X6_init N a p1 h = some w) : Zm Γ m_X6_init d [.ref a, .int p1] h (zoV w) := by
  unfold f_X6_init at hf
  refine z_meth rfl (plainFor_of_name wpl_X6) (by simp [lg_sl, Value.category, zml, m_X6_init]) ?_
  refine z_aload_n 0 dX6_init_0 rfl rfl ?_
  refine z_objInit dX6_init_1 wl_X6_1 wi_obj wi_objc (by omega) (Nat.le_of_ble_eq_true rfl) ?_
  refine z_aload_n 0 dX6_init_4 rfl rfl ?_
  refine z_iload_n 1 dX6_init_5 rfl rfl ?_
  refine z_iconst (0 : Int32) dX6_init_6 (by decide) ?_
  refine z_cS_i (d' := d - 1) (As := [.int p1, .int (0 : Int32)]) (rest := [.ref a]) dX6_init_7 lk_X6_7 hf (fun w1 e1 => zc_J9_max_7cf53 (by omega) e1) (by omega) rfl rfl (Nat.le_of_ble_eq_true rfl) fun y1 hf => ?_
  refine z_nwI dX6_init_10 wa_I hf fun y2 hf => ?_
  refine z_putB dX6_init_12 zc6 (by decide) wf_X6_13 (Or.inr ⟨rfl, rfl, rfl⟩) rfl rfl hf fun h3 hf => ?_
  refine z_aload_n 0 dX6_init_15 rfl rfl ?_
  refine z_iconst (0 : Int32) dX6_init_16 (by decide) ?_
  refine z_putB dX6_init_17 zc6 (by decide) wf_X6_19 (Or.inl rfl) rfl rfl hf fun h4 hf => ?_
  exact z_vret dX6_init_20 rfl (by cases hf; rfl)
set_option maxRecDepth 4000 in
theorem zc_X1_init {Γ : zG} {N d : Nat} (hd : 12 ≤ d) {a : Nat} {h : zH} {w : zH} (hf : f_X1_init N a h = some w) : Zm Γ m_X1_init d [.ref a] h (zoV w) := by
  unfold f_X1_init at hf
  refine z_meth rfl (plainFor_of_name wpl_X1) (by simp [lg_sl, Value.category, zml, m_X1_init]) ?_
  refine z_aload_n 0 dX1_init_0 rfl rfl ?_
  refine z_objInit dX1_init_1 wl_X1_3 wi_obj wi_objc (by omega) (Nat.le_of_ble_eq_true rfl) ?_
  refine z_aload_n 0 dX1_init_4 rfl rfl ?_
  refine z_nwO dX1_init_5 zc6 wc_X1_9 wn_X6 wi_X6 rfl zd6 hf fun y1 hf => ?_
  refine z_dup dX1_init_8 rfl ?_
  refine z_bipush (8 : Int32) dX1_init_9 (by decide) ?_
  refine z_cI_v (d' := d - 1) (As := [.int (8 : Int32)]) (rest := [.ref y1.1, .ref a]) dX1_init_11 lk_X1_11 hf (fun w1 e1 => zc_X6_init (by omega) e1) (by omega) rfl rfl (Nat.le_of_ble_eq_true rfl) fun y2 hf => ?_
  refine z_putB dX1_init_14 zc1 (by decide) wf_X1_14 (Or.inr ⟨rfl, rfl, rfl⟩) rfl rfl hf fun h3 hf => ?_
  refine z_aload_n 0 dX1_init_17 rfl rfl ?_
  refine z_nwO dX1_init_18 zc6 wc_X1_9 wn_X6 wi_X6 rfl zd6 hf fun y4 hf => ?_
  refine z_dup dX1_init_21 rfl ?_
  refine z_bipush (8 : Int32) dX1_init_22 (by decide) ?_
  refine z_cI_v (d' := d - 1) (As := [.int (8 : Int32)]) (rest := [.ref y4.1, .ref a]) dX1_init_24 lk_X1_11 hf (fun w1 e1 => zc_X6_init (by omega) e1) (by omega) rfl rfl (Nat.le_of_ble_eq_true rfl) fun y5 hf => ?_
  refine z_putB dX1_init_27 zc1 (by decide) wf_X1_20 (Or.inr ⟨rfl, rfl, rfl⟩) rfl rfl hf fun h6 hf => ?_
  exact z_vret dX1_init_30 rfl (by cases hf; rfl)
set_option maxRecDepth 4000 in
theorem zc_X5_init {Γ : zG} {N d : Nat} (hd : 10 ≤ d) {a : Nat} {p1 : Nat} {h : zH} {w : zH} (hf : f_X5_init N a p1 h = some w) : Zm Γ m_X5_init d [.ref a, .ref p1] h (zoV w) := by
  unfold f_X5_init at hf
  refine z_meth rfl (plainFor_of_name wpl_X5) (by simp [lg_sl, Value.category, zml, m_X5_init]) ?_
  refine z_aload_n 0 dX5_init_0 rfl rfl ?_
  refine z_objInit dX5_init_1 wl_X5_3 wi_obj wi_objc (by omega) (Nat.le_of_ble_eq_true rfl) ?_
  refine z_aload_n 0 dX5_init_4 rfl rfl ?_
  refine z_aload_n 1 dX5_init_5 rfl rfl ?_
  refine z_putB dX5_init_6 zc5 (by decide) wf_X5_9 (Or.inr ⟨rfl, rfl, rfl⟩) rfl rfl hf fun h1 hf => ?_
  refine z_aload_n 0 dX5_init_9 rfl rfl ?_
  refine z_bipush (11 : Int32) dX5_init_10 (by decide) ?_
  refine z_nwJ dX5_init_12 wa_J hf fun y2 hf => ?_
  refine z_putB dX5_init_14 zc5 (by decide) wf_X5_15 (Or.inr ⟨rfl, rfl, rfl⟩) rfl rfl hf fun h3 hf => ?_
  exact z_vret dX5_init_17 rfl (by cases hf; rfl)
set_option maxRecDepth 4000 in
theorem zl_X0_init_19 {Γ : zG} {N d : Nat} {h0 : zH} (hd : 13 ≤ d) {v0 : Nat} {k1 : zH → Option (zH)} {w : zH}  (hk1 : ∀ (h : zH), k1 h = some w → Z Γ m_X0_init d h0 (zoV w) 43 [(0, .ref v0)] [] h) : ∀ (n : Nat) (v2 : Int32) (h : zH), f_X0_init_l19 N v0 k1 n v2 h = some w → Z Γ m_X0_init d h0 (zoV w) 19 [(0, .ref v0), (2, .int v2)] [] h := by
  intro n
  induction n with
  | zero => intro v2 h hf; cases hf
  | succ n ih =>
    intro v2 h hf
    rw [f_X0_init_l19] at hf
    refine z_iload_n 1 dX0_init_19 rfl rfl ?_
    refine z_iconst (5 : Int32) dX0_init_20 (by decide) ?_
    refine z_icmp_ge 43 dX0_init_21 (by decide) hf (fun hf => ?_) (fun hf => ?_)
    · exact Z.sub [0] rfl (hk1 h hf)
    · refine z_aload_n 0 dX0_init_24 rfl rfl ?_
      refine z_getA dX0_init_25 zc0 (by decide) wf_X0_17 hf fun x4 hf => ?_
      refine z_iload_n 1 dX0_init_28 rfl rfl ?_
      refine z_nwO dX0_init_29 zc1 wc_X0_15 wn_X1 wi_X1 rfl zd1 hf fun y5 hf => ?_
      refine z_dup dX0_init_32 rfl ?_
      refine z_cI_v (d' := d - 1) (As := []) (rest := [.ref y5.1, .int v2, .ref x4]) dX0_init_33 lk_X0_21 hf (fun w1 e1 => zc_X1_init (by omega) e1) (by omega) rfl rfl (Nat.le_of_ble_eq_true rfl) fun y6 hf => ?_
      refine z_aastore dX0_init_36 hf fun h7 hf => ?_
      refine z_iinc (v2 + (1 : Int32)) 1 [(2, .int (v2 + (1 : Int32))), (0, .ref v0)] dX0_init_37 rfl rfl (by decide) rfl ?_
      refine z_goto 19 dX0_init_40 (by decide) ?_
      exact Z.sub [1, 0] rfl (ih (v2 + (1 : Int32)) h7 hf)
set_option maxRecDepth 4000 in
theorem zc_X0_init {Γ : zG} {N d : Nat} (hd : 13 ≤ d) {a : Nat} {p1 : Nat} {h : zH} {w : zH} (hf : f_X0_init N a p1 h = some w) : Zm Γ m_X0_init d [.ref a, .ref p1] h (zoV w) := by
  unfold f_X0_init at hf
  refine z_meth rfl (plainFor_of_name wpl_X0) (by simp [lg_sl, Value.category, zml, m_X0_init]) ?_
  refine z_aload_n 0 dX0_init_0 rfl rfl ?_
  refine z_objInit dX0_init_1 wl_X0_3 wi_obj wi_objc (by omega) (Nat.le_of_ble_eq_true rfl) ?_
  refine z_aload_n 0 dX0_init_4 rfl rfl ?_
  refine z_aload_n 1 dX0_init_5 rfl rfl ?_
  refine z_putB dX0_init_6 zc0 (by decide) wf_X0_9 (Or.inr ⟨rfl, rfl, rfl⟩) rfl rfl hf fun h1 hf => ?_
  refine z_aload_n 0 dX0_init_9 rfl rfl ?_
  refine z_iconst (5 : Int32) dX0_init_10 (by decide) ?_
  refine z_nwQ 3 rfl dX0_init_11 wc_X0_15 wo_3 hf fun y2 hf => ?_
  refine z_putB dX0_init_14 zc0 (by decide) wf_X0_17 (Or.inr ⟨rfl, rfl, rfl⟩) rfl rfl hf fun h3 hf => ?_
  refine z_iconst (0 : Int32) dX0_init_17 (by decide) ?_
  refine z_istore_n [(2, .int (0 : Int32)), (0, .ref a), (1, .ref p1)] dX0_init_18 rfl (by decide) rfl ?_
  refine Z.sub [1, 0] rfl (zl_X0_init_19 hd (fun h8 hf => ?_) N (0 : Int32) h3 hf)
  · refine z_aload_n 0 dX0_init_43 rfl rfl ?_
    refine z_nwO dX0_init_44 zc6 wc_X0_22 wn_X6 wi_X6 rfl zd6 hf fun y9 hf => ?_
    refine z_dup dX0_init_47 rfl ?_
    refine z_bipush (12 : Int32) dX0_init_48 (by decide) ?_
    refine z_cI_v (d' := d - 1) (As := [.int (12 : Int32)]) (rest := [.ref y9.1, .ref a]) dX0_init_50 lk_X0_24 hf (fun w1 e1 => zc_X6_init (by omega) e1) (by omega) rfl rfl (Nat.le_of_ble_eq_true rfl) fun y10 hf => ?_
    refine z_putB dX0_init_53 zc0 (by decide) wf_X0_27 (Or.inr ⟨rfl, rfl, rfl⟩) rfl rfl hf fun h11 hf => ?_
    refine z_aload_n 0 dX0_init_56 rfl rfl ?_
    refine z_nwO dX0_init_57 zc6 wc_X0_22 wn_X6 wi_X6 rfl zd6 hf fun y12 hf => ?_
    refine z_dup dX0_init_60 rfl ?_
    refine z_bipush (20 : Int32) dX0_init_61 (by decide) ?_
    refine z_cI_v (d' := d - 1) (As := [.int (20 : Int32)]) (rest := [.ref y12.1, .ref a]) dX0_init_63 lk_X0_24 hf (fun w1 e1 => zc_X6_init (by omega) e1) (by omega) rfl rfl (Nat.le_of_ble_eq_true rfl) fun y13 hf => ?_
    refine z_putB dX0_init_66 zc0 (by decide) wf_X0_31 (Or.inr ⟨rfl, rfl, rfl⟩) rfl rfl hf fun h14 hf => ?_
    refine z_aload_n 0 dX0_init_69 rfl rfl ?_
    refine z_nwO dX0_init_70 zc6 wc_X0_22 wn_X6 wi_X6 rfl zd6 hf fun y15 hf => ?_
    refine z_dup dX0_init_73 rfl ?_
    refine z_bipush (20 : Int32) dX0_init_74 (by decide) ?_
    refine z_cI_v (d' := d - 1) (As := [.int (20 : Int32)]) (rest := [.ref y15.1, .ref a]) dX0_init_76 lk_X0_24 hf (fun w1 e1 => zc_X6_init (by omega) e1) (by omega) rfl rfl (Nat.le_of_ble_eq_true rfl) fun y16 hf => ?_
    refine z_putB dX0_init_79 zc0 (by decide) wf_X0_34 (Or.inr ⟨rfl, rfl, rfl⟩) rfl rfl hf fun h17 hf => ?_
    refine z_aload_n 0 dX0_init_82 rfl rfl ?_
    refine z_nwO dX0_init_83 zc6 wc_X0_22 wn_X6 wi_X6 rfl zd6 hf fun y18 hf => ?_
    refine z_dup dX0_init_86 rfl ?_
    refine z_bipush (20 : Int32) dX0_init_87 (by decide) ?_
    refine z_cI_v (d' := d - 1) (As := [.int (20 : Int32)]) (rest := [.ref y18.1, .ref a]) dX0_init_89 lk_X0_24 hf (fun w1 e1 => zc_X6_init (by omega) e1) (by omega) rfl rfl (Nat.le_of_ble_eq_true rfl) fun y19 hf => ?_
    refine z_putB dX0_init_92 zc0 (by decide) wf_X0_37 (Or.inr ⟨rfl, rfl, rfl⟩) rfl rfl hf fun h20 hf => ?_
    refine z_aload_n 0 dX0_init_95 rfl rfl ?_
    refine z_nwO dX0_init_96 zc5 wc_X0_40 wn_X5 wi_X5 rfl zd5 hf fun y21 hf => ?_
    refine z_dup dX0_init_99 rfl ?_
    refine z_iconst (1 : Int32) dX0_init_100 (by decide) ?_
    refine z_nwI dX0_init_101 wa_I hf fun y22 hf => ?_
    refine z_dup dX0_init_103 rfl ?_
    refine z_iconst (0 : Int32) dX0_init_104 (by decide) ?_
    refine z_iconst (-1 : Int32) dX0_init_105 (by decide) ?_
    refine z_iastore dX0_init_106 hf fun h23 hf => ?_
    refine z_cI_v (d' := d - 1) (As := [.ref y22.1]) (rest := [.ref y21.1, .ref a]) dX0_init_107 lk_X0_42 hf (fun w1 e1 => zc_X5_init (by omega) e1) (by omega) rfl rfl (Nat.le_of_ble_eq_true rfl) fun y24 hf => ?_
    refine z_putB dX0_init_110 zc0 (by decide) wf_X0_45 (Or.inr ⟨rfl, rfl, rfl⟩) rfl rfl hf fun h25 hf => ?_
    refine z_aload_n 0 dX0_init_113 rfl rfl ?_
    refine z_aload_n 0 dX0_init_114 rfl rfl ?_
    refine z_getA dX0_init_115 zc0 (by decide) wf_X0_45 hf fun x26 hf => ?_
    refine z_putB dX0_init_118 zc0 (by decide) wf_X0_49 (Or.inl rfl) rfl rfl hf fun h27 hf => ?_
    refine z_aload_n 0 dX0_init_121 rfl rfl ?_
    refine z_iconst (2 : Int32) dX0_init_122 (by decide) ?_
    refine z_putB dX0_init_123 zc0 (by decide) wf_X0_52 (Or.inl rfl) rfl rfl hf fun h28 hf => ?_
    exact z_vret dX0_init_126 rfl (by cases hf; rfl)
set_option maxRecDepth 4000 in
theorem zc_X7_init {Γ : zG} {N d : Nat} (hd : 14 ≤ d) {a : Nat} {p1 : Nat} {h : zH} {w : zH} (hf : f_X7_init N a p1 h = some w) : Zm Γ m_X7_init d [.ref a, .ref p1] h (zoV w) := by
  unfold f_X7_init at hf
  refine z_meth rfl (plainFor_of_name wpl_X7) (by simp [lg_sl, Value.category, zml, m_X7_init]) ?_
  refine z_aload_n 0 dX7_init_0 rfl rfl ?_
  refine z_objInit dX7_init_1 wl_X7_3 wi_obj wi_objc (by omega) (Nat.le_of_ble_eq_true rfl) ?_
  refine z_aload_n 0 dX7_init_4 rfl rfl ?_
  refine z_aload_n 1 dX7_init_5 rfl rfl ?_
  refine z_putB dX7_init_6 zc7 (by decide) wf_X7_9 (Or.inr ⟨rfl, rfl, rfl⟩) rfl rfl hf fun h1 hf => ?_
  refine z_aload_n 0 dX7_init_9 rfl rfl ?_
  refine z_sipush (700 : Int32) dX7_init_10 (by decide) ?_
  refine z_nwI dX7_init_13 wa_I hf fun y2 hf => ?_
  refine z_putB dX7_init_15 zc7 (by decide) wf_X7_15 (Or.inr ⟨rfl, rfl, rfl⟩) rfl rfl hf fun h3 hf => ?_
  refine z_aload_n 0 dX7_init_18 rfl rfl ?_
  refine z_nwO dX7_init_19 zc6 wc_X7_19 wn_X6 wi_X6 rfl zd6 hf fun y4 hf => ?_
  refine z_dup dX7_init_22 rfl ?_
  refine z_sipush (700 : Int32) dX7_init_23 (by decide) ?_
  refine z_cI_v (d' := d - 1) (As := [.int (700 : Int32)]) (rest := [.ref y4.1, .ref a]) dX7_init_26 lk_X7_21 hf (fun w1 e1 => zc_X6_init (by omega) e1) (by omega) rfl rfl (Nat.le_of_ble_eq_true rfl) fun y5 hf => ?_
  refine z_putB dX7_init_29 zc7 (by decide) wf_X7_24 (Or.inr ⟨rfl, rfl, rfl⟩) rfl rfl hf fun h6 hf => ?_
  refine z_aload_n 0 dX7_init_32 rfl rfl ?_
  refine z_nwO dX7_init_33 zc0 wc_X7_28 wn_X0 wi_X0 rfl zd0 hf fun y7 hf => ?_
  refine z_dup dX7_init_36 rfl ?_
  refine z_aload_n 1 dX7_init_37 rfl rfl ?_
  refine z_cI_v (d' := d - 1) (As := [.ref p1]) (rest := [.ref y7.1, .ref a]) dX7_init_38 lk_X7_30 hf (fun w1 e1 => zc_X0_init (by omega) e1) (by omega) rfl rfl (Nat.le_of_ble_eq_true rfl) fun y8 hf => ?_
  refine z_putB dX7_init_41 zc7 (by decide) wf_X7_33 (Or.inr ⟨rfl, rfl, rfl⟩) rfl rfl hf fun h9 hf => ?_
  exact z_vret dX7_init_44 rfl (by cases hf; rfl)
set_option maxRecDepth 4000 in
theorem zl_X4_init_15 {Γ : zG} {N d : Nat} {h0 : zH} (hd : 14 ≤ d) {v0 : Nat} {v1 : Nat}  {w : zH}   : ∀ (n : Nat) (v2 : Int32) (h : zH), f_X4_init_l15 N v0 v1 n v2 h = some w → Z Γ m_X4_init d h0 (zoV w) 15 [(0, .ref v0), (1, .ref v1), (2, .int v2)] [] h := by
  intro n
  induction n with
  | zero => intro v2 h hf; cases hf
  | succ n ih =>
    intro v2 h hf
    rw [f_X4_init_l15] at hf
    refine z_iload_n 2 dX4_init_15 rfl rfl ?_
    refine z_bipush (8 : Int32) dX4_init_16 (by decide) ?_
    refine z_icmp_ge 41 dX4_init_18 (by decide) hf (fun hf => ?_) (fun hf => ?_)
    · exact z_vret dX4_init_41 rfl (by cases hf; rfl)
    · refine z_aload_n 0 dX4_init_21 rfl rfl ?_
      refine z_getA dX4_init_22 zc4 (by decide) wf_X4_11 hf fun x3 hf => ?_
      refine z_iload_n 2 dX4_init_25 rfl rfl ?_
      refine z_nwO dX4_init_26 zc0 wc_X4_9 wn_X0 wi_X0 rfl zd0 hf fun y4 hf => ?_
      refine z_dup dX4_init_29 rfl ?_
      refine z_aload_n 1 dX4_init_30 rfl rfl ?_
      refine z_cI_v (d' := d - 1) (As := [.ref v1]) (rest := [.ref y4.1, .int v2, .ref x3]) dX4_init_31 lk_X4_17 hf (fun w1 e1 => zc_X0_init (by omega) e1) (by omega) rfl rfl (Nat.le_of_ble_eq_true rfl) fun y5 hf => ?_
      refine z_aastore dX4_init_34 hf fun h6 hf => ?_
      refine z_iinc (v2 + (1 : Int32)) 2 [(2, .int (v2 + (1 : Int32))), (0, .ref v0), (1, .ref v1)] dX4_init_35 rfl rfl (by decide) rfl ?_
      refine z_goto 15 dX4_init_38 (by decide) ?_
      exact Z.sub [1, 2, 0] rfl (ih (v2 + (1 : Int32)) h6 hf)
set_option maxRecDepth 4000 in
theorem zc_X4_init {Γ : zG} {N d : Nat} (hd : 14 ≤ d) {a : Nat} {p1 : Nat} {h : zH} {w : zH} (hf : f_X4_init N a p1 h = some w) : Zm Γ m_X4_init d [.ref a, .ref p1] h (zoV w) := by
  unfold f_X4_init at hf
  refine z_meth rfl (plainFor_of_name wpl_X4) (by simp [lg_sl, Value.category, zml, m_X4_init]) ?_
  refine z_aload_n 0 dX4_init_0 rfl rfl ?_
  refine z_objInit dX4_init_1 wl_X4_3 wi_obj wi_objc (by omega) (Nat.le_of_ble_eq_true rfl) ?_
  refine z_aload_n 0 dX4_init_4 rfl rfl ?_
  refine z_bipush (8 : Int32) dX4_init_5 (by decide) ?_
  refine z_nwQ 4 rfl dX4_init_7 wc_X4_9 wo_4 hf fun y1 hf => ?_
  refine z_putB dX4_init_10 zc4 (by decide) wf_X4_11 (Or.inr ⟨rfl, rfl, rfl⟩) rfl rfl hf fun h2 hf => ?_
  refine z_iconst (0 : Int32) dX4_init_13 (by decide) ?_
  refine z_istore_n [(2, .int (0 : Int32)), (0, .ref a), (1, .ref p1)] dX4_init_14 rfl (by decide) rfl ?_
  refine Z.sub [1, 2, 0] rfl (zl_X4_init_15 hd  N (0 : Int32) h2 hf)
set_option maxRecDepth 4000 in
theorem zc_X3_init {Γ : zG} {N d : Nat} (hd : 12 ≤ d) {a : Nat} {p1 : Nat} {h : zH} {w : zH} (hf : f_X3_init N a p1 h = some w) : Zm Γ m_X3_init d [.ref a, .ref p1] h (zoV w) := by
  unfold f_X3_init at hf
  refine z_meth rfl (plainFor_of_name wpl_X3) (by simp [lg_sl, Value.category, zml, m_X3_init]) ?_
  refine z_aload_n 0 dX3_init_0 rfl rfl ?_
  refine z_objInit dX3_init_1 wl_X3_5 wi_obj wi_objc (by omega) (Nat.le_of_ble_eq_true rfl) ?_
  refine z_aload_n 0 dX3_init_4 rfl rfl ?_
  refine z_aload_n 1 dX3_init_5 rfl rfl ?_
  refine z_putB dX3_init_6 zc3 (by decide) wf_X3_11 (Or.inr ⟨rfl, rfl, rfl⟩) rfl rfl hf fun h1 hf => ?_
  refine z_aload_n 0 dX3_init_9 rfl rfl ?_
  refine z_sipush (960 : Int32) dX3_init_10 (by decide) ?_
  refine z_nwI dX3_init_13 wa_I hf fun y2 hf => ?_
  refine z_putB dX3_init_15 zc3 (by decide) wf_X3_15 (Or.inr ⟨rfl, rfl, rfl⟩) rfl rfl hf fun h3 hf => ?_
  refine z_aload_n 0 dX3_init_18 rfl rfl ?_
  refine z_sipush (514 : Int32) dX3_init_19 (by decide) ?_
  refine z_nwJ dX3_init_22 wa_J hf fun y4 hf => ?_
  refine z_putB dX3_init_24 zc3 (by decide) wf_X3_19 (Or.inr ⟨rfl, rfl, rfl⟩) rfl rfl hf fun h5 hf => ?_
  refine z_aload_n 0 dX3_init_27 rfl rfl ?_
  refine z_nwO dX3_init_28 zc6 wc_X3_23 wn_X6 wi_X6 rfl zd6 hf fun y6 hf => ?_
  refine z_dup dX3_init_31 rfl ?_
  refine z_bipush (120 : Int32) dX3_init_32 (by decide) ?_
  refine z_cI_v (d' := d - 1) (As := [.int (120 : Int32)]) (rest := [.ref y6.1, .ref a]) dX3_init_34 lk_X3_25 hf (fun w1 e1 => zc_X6_init (by omega) e1) (by omega) rfl rfl (Nat.le_of_ble_eq_true rfl) fun y7 hf => ?_
  refine z_putB dX3_init_37 zc3 (by decide) wf_X3_28 (Or.inr ⟨rfl, rfl, rfl⟩) rfl rfl hf fun h8 hf => ?_
  exact z_vret dX3_init_40 rfl (by cases hf; rfl)
set_option maxRecDepth 4000 in
theorem zc_X8_init {Γ : zG} {N d : Nat} (hd : 15 ≤ d) {a : Nat} {h : zH} {w : zH} (hf : f_X8_init N a h = some w) : Zm Γ m_X8_init d [.ref a] h (zoV w) := by
  unfold f_X8_init at hf
  refine z_meth rfl (plainFor_of_name wpl_X8) (by simp [lg_sl, Value.category, zml, m_X8_init]) ?_
  refine z_aload_n 0 dX8_init_0 rfl rfl ?_
  refine z_objInit dX8_init_1 wl_X8_1 wi_obj wi_objc (by omega) (Nat.le_of_ble_eq_true rfl) ?_
  refine z_aload_n 0 dX8_init_4 rfl rfl ?_
  refine z_nwO dX8_init_5 zc2 wc_X8_7 wn_X2 wi_X2 rfl zd2 hf fun y1 hf => ?_
  refine z_dup dX8_init_8 rfl ?_
  refine z_cI_v (d' := d - 1) (As := []) (rest := [.ref y1.1, .ref a]) dX8_init_9 lk_X8_9 hf (fun w1 e1 => zc_X2_init (by omega) e1) (by omega) rfl rfl (Nat.le_of_ble_eq_true rfl) fun y2 hf => ?_
  refine z_putB dX8_init_12 zc8 (by decide) wf_X8_10 (Or.inr ⟨rfl, rfl, rfl⟩) rfl rfl hf fun h3 hf => ?_
  refine z_aload_n 0 dX8_init_15 rfl rfl ?_
  refine z_nwO dX8_init_16 zc7 wc_X8_16 wn_X7 wi_X7 rfl zd7 hf fun y4 hf => ?_
  refine z_dup dX8_init_19 rfl ?_
  refine z_aload_n 0 dX8_init_20 rfl rfl ?_
  refine z_getA dX8_init_21 zc8 (by decide) wf_X8_10 hf fun x5 hf => ?_
  refine z_cI_v (d' := d - 1) (As := [.ref x5]) (rest := [.ref y4.1, .ref a]) dX8_init_24 lk_X8_18 hf (fun w1 e1 => zc_X7_init (by omega) e1) (by omega) rfl rfl (Nat.le_of_ble_eq_true rfl) fun y6 hf => ?_
  refine z_putB dX8_init_27 zc8 (by decide) wf_X8_21 (Or.inr ⟨rfl, rfl, rfl⟩) rfl rfl hf fun h7 hf => ?_
  refine z_aload_n 0 dX8_init_30 rfl rfl ?_
  refine z_nwO dX8_init_31 zc0 wc_X8_25 wn_X0 wi_X0 rfl zd0 hf fun y8 hf => ?_
  refine z_dup dX8_init_34 rfl ?_
  refine z_aload_n 0 dX8_init_35 rfl rfl ?_
  refine z_getA dX8_init_36 zc8 (by decide) wf_X8_10 hf fun x9 hf => ?_
  refine z_cI_v (d' := d - 1) (As := [.ref x9]) (rest := [.ref y8.1, .ref a]) dX8_init_39 lk_X8_27 hf (fun w1 e1 => zc_X0_init (by omega) e1) (by omega) rfl rfl (Nat.le_of_ble_eq_true rfl) fun y10 hf => ?_
  refine z_putB dX8_init_42 zc8 (by decide) wf_X8_28 (Or.inr ⟨rfl, rfl, rfl⟩) rfl rfl hf fun h11 hf => ?_
  refine z_aload_n 0 dX8_init_45 rfl rfl ?_
  refine z_nwO dX8_init_46 zc4 wc_X8_32 wn_X4 wi_X4 rfl zd4 hf fun y12 hf => ?_
  refine z_dup dX8_init_49 rfl ?_
  refine z_aload_n 0 dX8_init_50 rfl rfl ?_
  refine z_getA dX8_init_51 zc8 (by decide) wf_X8_10 hf fun x13 hf => ?_
  refine z_cI_v (d' := d - 1) (As := [.ref x13]) (rest := [.ref y12.1, .ref a]) dX8_init_54 lk_X8_34 hf (fun w1 e1 => zc_X4_init (by omega) e1) (by omega) rfl rfl (Nat.le_of_ble_eq_true rfl) fun y14 hf => ?_
  refine z_putB dX8_init_57 zc8 (by decide) wf_X8_35 (Or.inr ⟨rfl, rfl, rfl⟩) rfl rfl hf fun h15 hf => ?_
  refine z_aload_n 0 dX8_init_60 rfl rfl ?_
  refine z_nwO dX8_init_61 zc3 wc_X8_39 wn_X3 wi_X3 rfl zd3 hf fun y16 hf => ?_
  refine z_dup dX8_init_64 rfl ?_
  refine z_aload_n 0 dX8_init_65 rfl rfl ?_
  refine z_getA dX8_init_66 zc8 (by decide) wf_X8_10 hf fun x17 hf => ?_
  refine z_cI_v (d' := d - 1) (As := [.ref x17]) (rest := [.ref y16.1, .ref a]) dX8_init_69 lk_X8_41 hf (fun w1 e1 => zc_X3_init (by omega) e1) (by omega) rfl rfl (Nat.le_of_ble_eq_true rfl) fun y18 hf => ?_
  refine z_putB dX8_init_72 zc8 (by decide) wf_X8_42 (Or.inr ⟨rfl, rfl, rfl⟩) rfl rfl hf fun h19 hf => ?_
  refine z_aload_n 0 dX8_init_75 rfl rfl ?_
  refine z_iconst (-1 : Int32) dX8_init_76 (by decide) ?_
  refine z_putB dX8_init_77 zc8 (by decide) wf_X8_46 (Or.inl rfl) rfl rfl hf fun h20 hf => ?_
  exact z_vret dX8_init_80 rfl (by cases hf; rfl)
set_option maxRecDepth 4000 in
theorem zc_X9_init {Γ : zG} {N d : Nat} (hd : 10 ≤ d) {a : Nat} {h : zH} {w : zH} (hf : f_X9_init N a h = some w) : Zm Γ m_X9_init d [.ref a] h (zoV w) := by
  unfold f_X9_init at hf
  refine z_meth rfl (plainFor_of_name wpl_X9) (by simp [lg_sl, Value.category, zml, m_X9_init]) ?_
  refine z_aload_n 0 dX9_init_0 rfl rfl ?_
  refine z_objInit dX9_init_1 wl_X9_3 wi_obj wi_objc (by omega) (Nat.le_of_ble_eq_true rfl) ?_
  refine z_aload_n 0 dX9_init_4 rfl rfl ?_
  refine z_sipush (700 : Int32) dX9_init_5 (by decide) ?_
  refine z_nwI dX9_init_8 wa_I hf fun y1 hf => ?_
  refine z_putB dX9_init_10 zc9 (by decide) wf_X9_9 (Or.inr ⟨rfl, rfl, rfl⟩) rfl rfl hf fun h2 hf => ?_
  refine z_aload_n 0 dX9_init_13 rfl rfl ?_
  refine z_iconst (-1 : Int32) dX9_init_14 (by decide) ?_
  refine z_putB dX9_init_15 zc9 (by decide) wf_X9_13 (Or.inl rfl) rfl rfl hf fun h3 hf => ?_
  refine z_aload_n 0 dX9_init_18 rfl rfl ?_
  refine z_sipush (1378 : Int32) dX9_init_19 (by decide) ?_
  refine z_nwI dX9_init_22 wa_I hf fun y4 hf => ?_
  refine z_putB dX9_init_24 zc9 (by decide) wf_X9_17 (Or.inr ⟨rfl, rfl, rfl⟩) rfl rfl hf fun h5 hf => ?_
  refine z_aload_n 0 dX9_init_27 rfl rfl ?_
  refine z_sipush (1378 : Int32) dX9_init_28 (by decide) ?_
  refine z_nwI dX9_init_31 wa_I hf fun y6 hf => ?_
  refine z_putB dX9_init_33 zc9 (by decide) wf_X9_20 (Or.inr ⟨rfl, rfl, rfl⟩) rfl rfl hf fun h7 hf => ?_
  refine z_aload_n 0 dX9_init_36 rfl rfl ?_
  refine z_bipush (8 : Int32) dX9_init_37 (by decide) ?_
  refine z_sipush (1378 : Int32) dX9_init_39 (by decide) ?_
  refine z_nwG dX9_init_42 wc_X9_23 wo_5 wa_I hf fun y8 hf => ?_
  refine z_putB dX9_init_46 zc9 (by decide) wf_X9_25 (Or.inr ⟨rfl, rfl, rfl⟩) rfl rfl hf fun h9 hf => ?_
  refine z_aload_n 0 dX9_init_49 rfl rfl ?_
  refine z_sipush (1200 : Int32) dX9_init_50 (by decide) ?_
  refine z_nwJ dX9_init_53 wa_J hf fun y10 hf => ?_
  refine z_putB dX9_init_55 zc9 (by decide) wf_X9_28 (Or.inr ⟨rfl, rfl, rfl⟩) rfl rfl hf fun h11 hf => ?_
  refine z_aload_n 0 dX9_init_58 rfl rfl ?_
  refine z_bipush (120 : Int32) dX9_init_59 (by decide) ?_
  refine z_nwI dX9_init_61 wa_I hf fun y12 hf => ?_
  refine z_putB dX9_init_63 zc9 (by decide) wf_X9_32 (Or.inr ⟨rfl, rfl, rfl⟩) rfl rfl hf fun h13 hf => ?_
  refine z_aload_n 0 dX9_init_66 rfl rfl ?_
  refine z_ldc (54322 : Int32) dX9_init_67 wk_X9_35 ?_
  refine z_nwI dX9_init_69 wa_I hf fun y14 hf => ?_
  refine z_putB dX9_init_71 zc9 (by decide) wf_X9_36 (Or.inr ⟨rfl, rfl, rfl⟩) rfl rfl hf fun h15 hf => ?_
  refine z_aload_n 0 dX9_init_74 rfl rfl ?_
  refine z_sipush (30720 : Int32) dX9_init_75 (by decide) ?_
  refine z_nwZ dX9_init_78 wa_Z hf fun y16 hf => ?_
  refine z_putB dX9_init_80 zc9 (by decide) wf_X9_39 (Or.inr ⟨rfl, rfl, rfl⟩) rfl rfl hf fun h17 hf => ?_
  refine z_aload_n 0 dX9_init_83 rfl rfl ?_
  refine z_bipush (120 : Int32) dX9_init_84 (by decide) ?_
  refine z_nwI dX9_init_86 wa_I hf fun y18 hf => ?_
  refine z_putB dX9_init_88 zc9 (by decide) wf_X9_43 (Or.inr ⟨rfl, rfl, rfl⟩) rfl rfl hf fun h19 hf => ?_
  refine z_aload_n 0 dX9_init_91 rfl rfl ?_
  refine z_getA dX9_init_92 zc9 (by decide) wf_X9_17 hf fun x20 hf => ?_
  refine z_iconst (0 : Int32) dX9_init_95 (by decide) ?_
  refine z_iconst (2 : Int32) dX9_init_96 (by decide) ?_
  refine z_iastore dX9_init_97 hf fun h21 hf => ?_
  exact z_vret dX9_init_98 rfl (by cases hf; rfl)
set_option maxRecDepth 4000 in
theorem zc_X7_hasRoomForFiveWords {Γ : zG} {N d : Nat} (hd : 10 ≤ d) {a : Nat} {h : zH} {w : Int32 × zH} (hf : f_X7_hasRoomForFiveWords N a h = some w) : Zm Γ m_X7_hasRoomForFiveWords d [.ref a] h (zoI w) := by
  unfold f_X7_hasRoomForFiveWords at hf
  refine z_meth rfl (plainFor_of_name wpl_X7) (by simp [lg_sl, Value.category, zml, m_X7_hasRoomForFiveWords]) ?_
  refine z_aload_n 0 dX7_hasRoomForFiveWords_0 rfl rfl ?_
  refine z_getI dX7_hasRoomForFiveWords_1 zc7 (by decide) wf_X7_37 hf fun x1 hf => ?_
  refine z_bipush (20 : Int32) dX7_hasRoomForFiveWords_4 (by decide) ?_
  refine z_iadd dX7_hasRoomForFiveWords_6 ?_
  refine z_sipush (700 : Int32) dX7_hasRoomForFiveWords_7 (by decide) ?_
  refine z_icmp_gt 17 dX7_hasRoomForFiveWords_10 (by decide) hf (fun hf => ?_) (fun hf => ?_)
  · refine z_iconst (0 : Int32) dX7_hasRoomForFiveWords_17 (by decide) ?_
    exact z_zret dX7_hasRoomForFiveWords_18 rfl (Or.inl rfl) (by cases hf; rfl)
  · refine z_iconst (1 : Int32) dX7_hasRoomForFiveWords_13 (by decide) ?_
    refine z_goto 18 dX7_hasRoomForFiveWords_14 (by decide) ?_
    exact z_zret dX7_hasRoomForFiveWords_18 rfl (Or.inr rfl) (by cases hf; rfl)
set_option maxRecDepth 4000 in
theorem zl_X7_addWord_2 {Γ : zG} {N d : Nat} {h0 : zH} (hd : 10 ≤ d) {v0 : Nat} {v1 : Int32}  {w : zH}   : ∀ (n : Nat) (v2 : Int32) (h : zH), f_X7_addWord_l2 N v0 v1 n v2 h = some w → Z Γ m_X7_addWord d h0 (zoV w) 2 [(0, .ref v0), (1, .int v1), (2, .int v2)] [] h := by
  intro n
  induction n with
  | zero => intro v2 h hf; cases hf
  | succ n ih =>
    intro v2 h hf
    rw [f_X7_addWord_l2] at hf
    refine z_iload_n 2 dX7_addWord_2 rfl rfl ?_
    refine z_if_lt 58 dX7_addWord_3 (by decide) hf (fun hf => ?_) (fun hf => ?_)
    · exact z_vret dX7_addWord_58 rfl (by cases hf; rfl)
    · refine z_aload_n 0 dX7_addWord_6 rfl rfl ?_
      refine z_getI dX7_addWord_7 zc7 (by decide) wf_X7_37 hf fun x1 hf => ?_
      refine zjn_elim (P := fun (j52 : Int32 → zH → Option (zH)) => ∀ (v2 : Int32) (h : zH), j52 v2 h = some w → Z Γ m_X7_addWord d h0 (zoV w) 52 [(0, .ref v0), (1, .int v1), (2, .int v2)] [] h) hf (fun v2 h hf => ?_) (fun j52 hj52 hf => ?_)
      · refine z_iinc (v2 + (-1 : Int32)) 2 [(2, .int (v2 + (-1 : Int32))), (0, .ref v0), (1, .int v1)] dX7_addWord_52 rfl rfl (by decide) rfl ?_
        refine z_goto 2 dX7_addWord_55 (by decide) ?_
        exact Z.sub [1, 2, 0] rfl (ih (v2 + (-1 : Int32)) h hf)
      · refine z_if_lt 52 dX7_addWord_10 (by decide) hf (fun hf => ?_) (fun hf => ?_)
        · exact Z.sub [0, 1, 2] rfl (hj52 v2 h hf)
        · refine z_aload_n 0 dX7_addWord_13 rfl rfl ?_
          refine z_getI dX7_addWord_14 zc7 (by decide) wf_X7_37 hf fun x2 hf => ?_
          refine z_sipush (700 : Int32) dX7_addWord_17 (by decide) ?_
          refine z_icmp_ge 52 dX7_addWord_20 (by decide) hf (fun hf => ?_) (fun hf => ?_)
          · exact Z.sub [0, 1, 2] rfl (hj52 v2 h hf)
          · refine z_aload_n 0 dX7_addWord_23 rfl rfl ?_
            refine z_getA dX7_addWord_24 zc7 (by decide) wf_X7_15 hf fun x3 hf => ?_
            refine z_aload_n 0 dX7_addWord_27 rfl rfl ?_
            refine z_getI dX7_addWord_28 zc7 (by decide) wf_X7_37 hf fun x4 hf => ?_
            refine z_iload_n 1 dX7_addWord_31 rfl rfl ?_
            refine z_bipush (8 : Int32) dX7_addWord_32 (by decide) ?_
            refine z_iload_n 2 dX7_addWord_34 rfl rfl ?_
            refine z_imul dX7_addWord_35 ?_
            refine z_iushr dX7_addWord_36 ?_
            refine z_sipush (255 : Int32) dX7_addWord_37 (by decide) ?_
            refine z_iand dX7_addWord_40 ?_
            refine z_iastore dX7_addWord_41 hf fun h5 hf => ?_
            refine z_aload_n 0 dX7_addWord_42 rfl rfl ?_
            refine z_dup dX7_addWord_43 rfl ?_
            refine z_getI dX7_addWord_44 zc7 (by decide) wf_X7_37 hf fun x6 hf => ?_
            refine z_iconst (1 : Int32) dX7_addWord_47 (by decide) ?_
            refine z_iadd dX7_addWord_48 ?_
            refine z_putB dX7_addWord_49 zc7 (by decide) wf_X7_37 (Or.inl rfl) rfl rfl hf fun h7 hf => ?_
            exact Z.sub [0, 1, 2] rfl (hj52 v2 h7 hf)
set_option maxRecDepth 4000 in
theorem zc_X7_addWord {Γ : zG} {N d : Nat} (hd : 10 ≤ d) {a : Nat} {p1 : Int32} {h : zH} {w : zH} (hf : f_X7_addWord N a p1 h = some w) : Zm Γ m_X7_addWord d [.ref a, .int p1] h (zoV w) := by
  unfold f_X7_addWord at hf
  refine z_meth rfl (plainFor_of_name wpl_X7) (by simp [lg_sl, Value.category, zml, m_X7_addWord]) ?_
  refine z_iconst (3 : Int32) dX7_addWord_0 (by decide) ?_
  refine z_istore_n [(2, .int (3 : Int32)), (0, .ref a), (1, .int p1)] dX7_addWord_1 rfl (by decide) rfl ?_
  refine Z.sub [1, 2, 0] rfl (zl_X7_addWord_2 hd  N (3 : Int32) h hf)
set_option maxRecDepth 4000 in
theorem zc_X7_textLength {Γ : zG} {N d : Nat} (hd : 10 ≤ d) {a : Nat} {h : zH} {w : Int32 × zH} (hf : f_X7_textLength N a h = some w) : Zm Γ m_X7_textLength d [.ref a] h (zoI w) := by
  unfold f_X7_textLength at hf
  refine z_meth rfl (plainFor_of_name wpl_X7) (by simp [lg_sl, Value.category, zml, m_X7_textLength]) ?_
  refine z_aload_n 0 dX7_textLength_0 rfl rfl ?_
  refine z_getI dX7_textLength_1 zc7 (by decide) wf_X7_37 hf fun x1 hf => ?_
  exact z_iret dX7_textLength_4 rfl (by cases hf; rfl)
set_option maxRecDepth 4000 in
theorem zc_X8_append {Γ : zG} {N d : Nat} (hd : 11 ≤ d) {a : Nat} {p1 : Int32} {p2 : Int32} {p3 : Int32} {p4 : Int32} {p5 : Int32} {h : zH} {w : Int32 × zH} (hf : f_X8_append N a p1 p2 p3 p4 p5 h = some w) : Zm Γ m_X8_append d [.ref a, .int p1, .int p2, .int p3, .int p4, .int p5] h (zoI w) := by
  unfold f_X8_append at hf
  refine z_meth rfl (plainFor_of_name wpl_X8) (by simp [lg_sl, Value.category, zml, m_X8_append]) ?_
  refine z_aload_n 0 dX8_append_0 rfl rfl ?_
  refine z_getA dX8_append_1 zc8 (by decide) wf_X8_21 hf fun x1 hf => ?_
  refine z_cV_i (d' := d - 1) (As := []) (rest := []) dX8_append_4 lk_X8_50 rfl hf (fun w1 e1 => zc_X7_hasRoomForFiveWords (by omega) e1) (by omega) rfl rfl (Nat.le_of_ble_eq_true rfl) fun y2 hf => ?_
  refine z_if_ne 12 dX8_append_7 (by decide) hf (fun hf => ?_) (fun hf => ?_)
  · refine z_iconst (-1 : Int32) dX8_append_10 (by decide) ?_
    exact z_iret dX8_append_11 rfl (by cases hf; rfl)
  · refine z_aload_n 0 dX8_append_12 rfl rfl ?_
    refine z_getA dX8_append_13 zc8 (by decide) wf_X8_21 hf fun x3 hf => ?_
    refine z_iload_n 1 dX8_append_16 rfl rfl ?_
    refine z_cV_v (d' := d - 1) (As := [.int p1]) (rest := []) dX8_append_17 lk_X8_54 rfl hf (fun w1 e1 => zc_X7_addWord (by omega) e1) (by omega) rfl rfl (Nat.le_of_ble_eq_true rfl) fun y4 hf => ?_
    refine z_aload_n 0 dX8_append_20 rfl rfl ?_
    refine z_getA dX8_append_21 zc8 (by decide) wf_X8_21 hf fun x5 hf => ?_
    refine z_iload_n 2 dX8_append_24 rfl rfl ?_
    refine z_cV_v (d' := d - 1) (As := [.int p2]) (rest := []) dX8_append_25 lk_X8_54 rfl hf (fun w1 e1 => zc_X7_addWord (by omega) e1) (by omega) rfl rfl (Nat.le_of_ble_eq_true rfl) fun y6 hf => ?_
    refine z_aload_n 0 dX8_append_28 rfl rfl ?_
    refine z_getA dX8_append_29 zc8 (by decide) wf_X8_21 hf fun x7 hf => ?_
    refine z_iload_n 3 dX8_append_32 rfl rfl ?_
    refine z_cV_v (d' := d - 1) (As := [.int p3]) (rest := []) dX8_append_33 lk_X8_54 rfl hf (fun w1 e1 => zc_X7_addWord (by omega) e1) (by omega) rfl rfl (Nat.le_of_ble_eq_true rfl) fun y8 hf => ?_
    refine z_aload_n 0 dX8_append_36 rfl rfl ?_
    refine z_getA dX8_append_37 zc8 (by decide) wf_X8_21 hf fun x9 hf => ?_
    refine z_iload 4 dX8_append_40 rfl ?_
    refine z_cV_v (d' := d - 1) (As := [.int p4]) (rest := []) dX8_append_42 lk_X8_54 rfl hf (fun w1 e1 => zc_X7_addWord (by omega) e1) (by omega) rfl rfl (Nat.le_of_ble_eq_true rfl) fun y10 hf => ?_
    refine z_aload_n 0 dX8_append_45 rfl rfl ?_
    refine z_getA dX8_append_46 zc8 (by decide) wf_X8_21 hf fun x11 hf => ?_
    refine z_iload 5 dX8_append_49 rfl ?_
    refine z_cV_v (d' := d - 1) (As := [.int p5]) (rest := []) dX8_append_51 lk_X8_54 rfl hf (fun w1 e1 => zc_X7_addWord (by omega) e1) (by omega) rfl rfl (Nat.le_of_ble_eq_true rfl) fun y12 hf => ?_
    refine z_aload_n 0 dX8_append_54 rfl rfl ?_
    refine z_getA dX8_append_55 zc8 (by decide) wf_X8_21 hf fun x13 hf => ?_
    refine z_cV_i (d' := d - 1) (As := []) (rest := []) dX8_append_58 lk_X8_58 rfl hf (fun w1 e1 => zc_X7_textLength (by omega) e1) (by omega) rfl rfl (Nat.le_of_ble_eq_true rfl) fun y14 hf => ?_
    exact z_iret dX8_append_61 rfl (by cases hf; rfl)
set_option maxRecDepth 4000 in
theorem zl_X9_append_23 {Γ : zG} {N d : Nat} {h0 : zH} (hd : 10 ≤ d) {v0 : Nat} {v1 : Int32} {v2 : Int32} {v3 : Int32} {v4 : Int32} {v5 : Int32}  {w : Int32 × zH}   : ∀ (n : Nat) (v6 : Int32) (h : zH), f_X9_append_l23 N v0 v1 v2 v3 v4 v5 n v6 h = some w → Z Γ m_X9_append d h0 (zoI w) 23 [(0, .ref v0), (1, .int v1), (2, .int v2), (3, .int v3), (4, .int v4), (5, .int v5), (6, .int v6)] [] h := by
  intro n
  induction n with
  | zero => intro v6 h hf; cases hf
  | succ n ih =>
    intro v6 h hf
    rw [f_X9_append_l23] at hf
    refine z_iload 6 dX9_append_23 rfl ?_
    refine z_bipush (20 : Int32) dX9_append_25 (by decide) ?_
    refine z_icmp_ge 120 dX9_append_27 (by decide) hf (fun hf => ?_) (fun hf => ?_)
    · refine z_aload_n 0 dX9_append_120 rfl rfl ?_
      refine z_getI dX9_append_121 zc9 (by decide) wf_X9_61 hf fun x3 hf => ?_
      exact z_iret dX9_append_124 rfl (by cases hf; rfl)
    · refine z_iload 6 dX9_append_30 rfl ?_
      refine z_iconst (4 : Int32) dX9_append_32 (by decide) ?_
      refine zjn_elim (P := fun (j76 : Int32 → Int32 → zH → Option (Int32 × zH)) => ∀ (v6 : Int32) (s0 : Int32) (h : zH), j76 v6 s0 h = some w → Z Γ m_X9_append d h0 (zoI w) 76 [(0, .ref v0), (1, .int v1), (2, .int v2), (3, .int v3), (4, .int v4), (5, .int v5), (6, .int v6)] [.int s0] h) hf (fun v6 s0 h hf => ?_) (fun j76 hj76 hf => ?_)
      · refine z_istore [(7, .int s0), (0, .ref v0), (1, .int v1), (2, .int v2), (3, .int v3), (4, .int v4), (5, .int v5), (6, .int v6)] dX9_append_76 (by decide) rfl ?_
        refine z_aload_n 1 dX9_append_78 rfl rfl ?_
        refine z_getA dX9_append_79 zc9 (by decide) wf_X9_9 hf fun x4 hf => ?_
        refine z_aload_n 1 dX9_append_82 rfl rfl ?_
        refine z_getI dX9_append_83 zc9 (by decide) wf_X9_61 hf fun x5 hf => ?_
        refine z_iload 0 dX9_append_86 rfl ?_
        refine z_bipush (24 : Int32) dX9_append_88 (by decide) ?_
        refine z_bipush (8 : Int32) dX9_append_90 (by decide) ?_
        refine z_iload 7 dX9_append_92 rfl ?_
        refine z_iconst (4 : Int32) dX9_append_94 (by decide) ?_
        refine z_irem dX9_append_95 hf fun x6 hf => ?_
        refine z_imul dX9_append_96 ?_
        refine z_isub dX9_append_97 ?_
        refine z_ishr dX9_append_98 ?_
        refine z_sipush (255 : Int32) dX9_append_99 (by decide) ?_
        refine z_iand dX9_append_102 ?_
        refine z_iastore dX9_append_103 hf fun h7 hf => ?_
        refine z_aload_n 1 dX9_append_104 rfl rfl ?_
        refine z_dup dX9_append_105 rfl ?_
        refine z_getI dX9_append_106 zc9 (by decide) wf_X9_61 hf fun x8 hf => ?_
        refine z_iconst (1 : Int32) dX9_append_109 (by decide) ?_
        refine z_iadd dX9_append_110 ?_
        refine z_putB dX9_append_111 zc9 (by decide) wf_X9_61 (Or.inl rfl) rfl rfl hf fun h9 hf => ?_
        refine z_iinc (v6 + (1 : Int32)) 7 [(6, .int (v6 + (1 : Int32))), (7, .int s0), (0, .ref v0), (1, .int v1), (2, .int v2), (3, .int v3), (4, .int v4), (5, .int v5)] dX9_append_114 rfl rfl (by decide) rfl ?_
        refine z_goto 23 dX9_append_117 (by decide) ?_
        exact Z.sub [2, 3, 4, 5, 6, 7, 0] rfl (ih (v6 + (1 : Int32)) h9 hf)
      · refine z_icmp_ge 40 dX9_append_33 (by decide) hf (fun hf => ?_) (fun hf => ?_)
        · refine z_iload 6 dX9_append_40 rfl ?_
          refine z_bipush (8 : Int32) dX9_append_42 (by decide) ?_
          refine z_icmp_ge 51 dX9_append_44 (by decide) hf (fun hf => ?_) (fun hf => ?_)
          · refine z_iload 6 dX9_append_51 rfl ?_
            refine z_bipush (12 : Int32) dX9_append_53 (by decide) ?_
            refine z_icmp_ge 62 dX9_append_55 (by decide) hf (fun hf => ?_) (fun hf => ?_)
            · refine z_iload 6 dX9_append_62 rfl ?_
              refine z_bipush (16 : Int32) dX9_append_64 (by decide) ?_
              refine z_icmp_ge 74 dX9_append_66 (by decide) hf (fun hf => ?_) (fun hf => ?_)
              · refine z_iload 5 dX9_append_74 rfl ?_
                exact Z.sub [0, 1, 2, 3, 4, 5, 6] rfl (hj76 v6 v5 h hf)
              · refine z_iload 4 dX9_append_69 rfl ?_
                refine z_goto 76 dX9_append_71 (by decide) ?_
                exact Z.sub [0, 1, 2, 3, 4, 5, 6] rfl (hj76 v6 v4 h hf)
            · refine z_iload_n 3 dX9_append_58 rfl rfl ?_
              refine z_goto 76 dX9_append_59 (by decide) ?_
              exact Z.sub [0, 1, 2, 3, 4, 5, 6] rfl (hj76 v6 v3 h hf)
          · refine z_iload_n 2 dX9_append_47 rfl rfl ?_
            refine z_goto 76 dX9_append_48 (by decide) ?_
            exact Z.sub [0, 1, 2, 3, 4, 5, 6] rfl (hj76 v6 v2 h hf)
        · refine z_iload_n 1 dX9_append_36 rfl rfl ?_
          refine z_goto 76 dX9_append_37 (by decide) ?_
          exact Z.sub [0, 1, 2, 3, 4, 5, 6] rfl (hj76 v6 v1 h hf)
set_option maxRecDepth 4000 in
theorem zc_X9_append {Γ : zG} {N d : Nat} (hd : 10 ≤ d) {a : Nat} {p1 : Int32} {p2 : Int32} {p3 : Int32} {p4 : Int32} {p5 : Int32} {h : zH} {w : Int32 × zH} (hf : f_X9_append N a p1 p2 p3 p4 p5 h = some w) : Zm Γ m_X9_append d [.ref a, .int p1, .int p2, .int p3, .int p4, .int p5] h (zoI w) := by
  unfold f_X9_append at hf
  refine z_meth rfl (plainFor_of_name wpl_X9) (by simp [lg_sl, Value.category, zml, m_X9_append]) ?_
  refine z_aload_n 0 dX9_append_0 rfl rfl ?_
  refine z_iconst (0 : Int32) dX9_append_1 (by decide) ?_
  refine z_putB dX9_append_2 zc9 (by decide) wf_X9_46 (Or.inl rfl) rfl rfl hf fun h1 hf => ?_
  refine z_aload_n 0 dX9_append_5 rfl rfl ?_
  refine z_getI dX9_append_6 zc9 (by decide) wf_X9_61 hf fun x2 hf => ?_
  refine z_bipush (20 : Int32) dX9_append_9 (by decide) ?_
  refine z_iadd dX9_append_11 ?_
  refine z_sipush (700 : Int32) dX9_append_12 (by decide) ?_
  refine z_icmp_le 20 dX9_append_15 (by decide) hf (fun hf => ?_) (fun hf => ?_)
  · refine z_iconst (0 : Int32) dX9_append_20 (by decide) ?_
    refine z_istore [(6, .int (0 : Int32)), (0, .ref a), (1, .int p1), (2, .int p2), (3, .int p3), (4, .int p4), (5, .int p5)] dX9_append_21 (by decide) rfl ?_
    refine Z.sub [1, 2, 3, 4, 5, 6, 0] rfl (zl_X9_append_23 hd  N (0 : Int32) h1 hf)
  · refine z_iconst (-1 : Int32) dX9_append_18 (by decide) ?_
    exact z_iret dX9_append_19 rfl (by cases hf; rfl)
set_option maxRecDepth 4000 in
theorem zc_X6_clear {Γ : zG} {N d : Nat} (hd : 10 ≤ d) {a : Nat} {h : zH} {w : zH} (hf : f_X6_clear N a h = some w) : Zm Γ m_X6_clear d [.ref a] h (zoV w) := by
  unfold f_X6_clear at hf
  refine z_meth rfl (plainFor_of_name wpl_X6) (by simp [lg_sl, Value.category, zml, m_X6_clear]) ?_
  refine z_aload_n 0 dX6_clear_0 rfl rfl ?_
  refine z_iconst (0 : Int32) dX6_clear_1 (by decide) ?_
  refine z_putB dX6_clear_2 zc6 (by decide) wf_X6_19 (Or.inl rfl) rfl rfl hf fun h1 hf => ?_
  exact z_vret dX6_clear_5 rfl (by cases hf; rfl)
set_option maxRecDepth 4000 in
theorem zc_X0_clearLot {Γ : zG} {N d : Nat} (hd : 11 ≤ d) {a : Nat} {h : zH} {w : zH} (hf : f_X0_clearLot N a h = some w) : Zm Γ m_X0_clearLot d [.ref a] h (zoV w) := by
  unfold f_X0_clearLot at hf
  refine z_meth rfl (plainFor_of_name wpl_X0) (by simp [lg_sl, Value.category, zml, m_X0_clearLot]) ?_
  refine z_aload_n 0 dX0_clearLot_0 rfl rfl ?_
  refine z_getA dX0_clearLot_1 zc0 (by decide) wf_X0_31 hf fun x1 hf => ?_
  refine z_cV_v (d' := d - 1) (As := []) (rest := []) dX0_clearLot_4 lk_X0_59 rfl hf (fun w1 e1 => zc_X6_clear (by omega) e1) (by omega) rfl rfl (Nat.le_of_ble_eq_true rfl) fun y2 hf => ?_
  refine z_aload_n 0 dX0_clearLot_7 rfl rfl ?_
  refine z_getA dX0_clearLot_8 zc0 (by decide) wf_X0_34 hf fun x3 hf => ?_
  refine z_cV_v (d' := d - 1) (As := []) (rest := []) dX0_clearLot_11 lk_X0_59 rfl hf (fun w1 e1 => zc_X6_clear (by omega) e1) (by omega) rfl rfl (Nat.le_of_ble_eq_true rfl) fun y4 hf => ?_
  refine z_aload_n 0 dX0_clearLot_14 rfl rfl ?_
  refine z_getA dX0_clearLot_15 zc0 (by decide) wf_X0_37 hf fun x5 hf => ?_
  refine z_cV_v (d' := d - 1) (As := []) (rest := []) dX0_clearLot_18 lk_X0_59 rfl hf (fun w1 e1 => zc_X6_clear (by omega) e1) (by omega) rfl rfl (Nat.le_of_ble_eq_true rfl) fun y6 hf => ?_
  refine z_aload_n 0 dX0_clearLot_21 rfl rfl ?_
  refine z_iconst (0 : Int32) dX0_clearLot_22 (by decide) ?_
  refine z_putB dX0_clearLot_23 zc0 (by decide) wf_X0_81 (Or.inl rfl) rfl rfl hf fun h7 hf => ?_
  refine z_aload_n 0 dX0_clearLot_26 rfl rfl ?_
  refine z_iconst (0 : Int32) dX0_clearLot_27 (by decide) ?_
  refine z_putB dX0_clearLot_28 zc0 (by decide) wf_X0_84 (Or.inl rfl) rfl rfl hf fun h8 hf => ?_
  exact z_vret dX0_clearLot_31 rfl (by cases hf; rfl)
set_option maxRecDepth 4000 in
theorem zc_X0_start {Γ : zG} {N d : Nat} (hd : 12 ≤ d) {a : Nat} {h : zH} {w : zH} (hf : f_X0_start N a h = some w) : Zm Γ m_X0_start d [.ref a] h (zoV w) := by
  unfold f_X0_start at hf
  refine z_meth rfl (plainFor_of_name wpl_X0) (by simp [lg_sl, Value.category, zml, m_X0_start]) ?_
  refine z_aload_n 0 dX0_start_0 rfl rfl ?_
  refine z_iconst (2 : Int32) dX0_start_1 (by decide) ?_
  refine z_putB dX0_start_2 zc0 (by decide) wf_X0_52 (Or.inl rfl) rfl rfl hf fun h1 hf => ?_
  refine z_aload_n 0 dX0_start_5 rfl rfl ?_
  refine z_iconst (0 : Int32) dX0_start_6 (by decide) ?_
  refine z_putB dX0_start_7 zc0 (by decide) wf_X0_56 (Or.inl rfl) rfl rfl hf fun h2 hf => ?_
  refine z_aload_n 0 dX0_start_10 rfl rfl ?_
  refine z_getA dX0_start_11 zc0 (by decide) wf_X0_27 hf fun x3 hf => ?_
  refine z_cV_v (d' := d - 1) (As := []) (rest := []) dX0_start_14 lk_X0_59 rfl hf (fun w1 e1 => zc_X6_clear (by omega) e1) (by omega) rfl rfl (Nat.le_of_ble_eq_true rfl) fun y4 hf => ?_
  refine z_aload_n 0 dX0_start_17 rfl rfl ?_
  refine z_aload_n 0 dX0_start_18 rfl rfl ?_
  refine z_getA dX0_start_19 zc0 (by decide) wf_X0_45 hf fun x5 hf => ?_
  refine z_putB dX0_start_22 zc0 (by decide) wf_X0_49 (Or.inl rfl) rfl rfl hf fun h6 hf => ?_
  refine z_aload_n 0 dX0_start_25 rfl rfl ?_
  refine z_iconst (0 : Int32) dX0_start_26 (by decide) ?_
  refine z_putB dX0_start_27 zc0 (by decide) wf_X0_62 (Or.inl rfl) rfl rfl hf fun h7 hf => ?_
  refine z_aload_n 0 dX0_start_30 rfl rfl ?_
  refine z_iconst (0 : Int32) dX0_start_31 (by decide) ?_
  refine z_putB dX0_start_32 zc0 (by decide) wf_X0_65 (Or.inl rfl) rfl rfl hf fun h8 hf => ?_
  refine z_aload_n 0 dX0_start_35 rfl rfl ?_
  refine z_iconst (0 : Int32) dX0_start_36 (by decide) ?_
  refine z_putB dX0_start_37 zc0 (by decide) wf_X0_68 (Or.inl rfl) rfl rfl hf fun h9 hf => ?_
  refine z_aload_n 0 dX0_start_40 rfl rfl ?_
  refine z_cV_v (d' := d - 1) (As := []) (rest := []) dX0_start_41 lk_X0_71 rfl hf (fun w1 e1 => zc_X0_clearLot (by omega) e1) (by omega) rfl rfl (Nat.le_of_ble_eq_true rfl) fun y10 hf => ?_
  exact z_vret dX0_start_44 rfl (by cases hf; rfl)

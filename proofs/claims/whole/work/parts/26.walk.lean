set_option maxRecDepth 4000 in
theorem zl_X9_priceOf_18 {Γ : zG} {N d : Nat} {h0 : zH} (hd : 13 ≤ d) {v0 : Nat} {v1 : Int32} {v2 : Int32} {k1 : zH → Option (Int32 × zH)} {w : Int32 × zH}  (hk1 : ∀ (h : zH), k1 h = some w → Z Γ m_X9_priceOf d h0 (zoI w) 188 [(0, .ref v0)] [] h) : ∀ (n : Nat) (v3 : Int32) (v4 : Int32) (h : zH), f_X9_priceOf_l18 N v0 v1 v2 k1 n v3 v4 h = some w → Z Γ m_X9_priceOf d h0 (zoI w) 18 [(0, .ref v0), (1, .int v1), (2, .int v2), (3, .int v3), (4, .int v4)] [] h := by
  intro n
  induction n with
  | zero => intro v3 v4 h hf; cases hf
  | succ n ih =>
    intro v3 v4 h hf
    rw [f_X9_priceOf_l18] at hf
    refine z_iload 4 dX9_priceOf_18 rfl ?_
    refine z_aload_n 0 dX9_priceOf_20 rfl rfl ?_
    refine z_getA dX9_priceOf_21 zc9 (by decide) wf_X9_17 hf fun x4 hf => ?_
    refine z_bipush (10 : Int32) dX9_priceOf_24 (by decide) ?_
    refine z_iaload dX9_priceOf_26 hf fun x5 hf => ?_
    refine z_icmp_ge 188 dX9_priceOf_27 (by decide) hf (fun hf => ?_) (fun hf => ?_)
    · exact Z.sub [0] rfl (hk1 h hf)
    · refine z_aload_n 0 dX9_priceOf_30 rfl rfl ?_
      refine z_getA dX9_priceOf_31 zc9 (by decide) wf_X9_17 hf fun x6 hf => ?_
      refine z_sipush (178 : Int32) dX9_priceOf_34 (by decide) ?_
      refine z_iload 4 dX9_priceOf_37 rfl ?_
      refine z_iadd dX9_priceOf_39 ?_
      refine z_iaload dX9_priceOf_40 hf fun x7 hf => ?_
      refine z_istore [(5, .int x7), (0, .ref v0), (1, .int v1), (2, .int v2), (3, .int v3), (4, .int v4)] dX9_priceOf_41 (by decide) rfl ?_
      refine z_iload 0 dX9_priceOf_43 rfl ?_
      refine z_iconst (1 : Int32) dX9_priceOf_45 (by decide) ?_
      refine zjn_elim (P := fun (j182 : Int32 → Int32 → zH → Option (Int32 × zH)) => ∀ (v3 : Int32) (v4 : Int32) (h : zH), j182 v3 v4 h = some w → Z Γ m_X9_priceOf d h0 (zoI w) 182 [(0, .ref v0), (1, .int v1), (2, .int v2), (3, .int v3), (4, .int v4)] [] h) hf (fun v3 v4 h hf => ?_) (fun j182 hj182 hf => ?_)
      · refine z_iinc (v4 + (1 : Int32)) 4 [(4, .int (v4 + (1 : Int32))), (0, .ref v0), (1, .int v1), (2, .int v2), (3, .int v3)] dX9_priceOf_182 rfl rfl (by decide) rfl ?_
        refine z_goto 18 dX9_priceOf_185 (by decide) ?_
        exact Z.sub [1, 2, 3, 4, 0] rfl (ih v3 (v4 + (1 : Int32)) h hf)
      · refine z_icmp_gt 152 dX9_priceOf_46 (by decide) hf (fun hf => ?_) (fun hf => ?_)
        · refine z_iinc (v3 + (-1 : Int32)) 4 [(3, .int (v3 + (-1 : Int32))), (5, .int x7), (0, .ref v0), (1, .int v1), (2, .int v2), (4, .int v4)] dX9_priceOf_152 rfl rfl (by decide) rfl ?_
          refine z_aload_n 2 dX9_priceOf_155 rfl rfl ?_
          refine z_getA dX9_priceOf_156 zc9 (by decide) wf_X9_28 hf fun x8 hf => ?_
          refine z_iload_n 0 dX9_priceOf_159 rfl rfl ?_
          refine z_iconst (1 : Int32) dX9_priceOf_160 (by decide) ?_
          refine z_isub dX9_priceOf_161 ?_
          refine z_iload 1 dX9_priceOf_162 rfl ?_
          refine z_aload_n 2 dX9_priceOf_164 rfl rfl ?_
          refine z_getA dX9_priceOf_165 zc9 (by decide) wf_X9_28 hf fun x9 hf => ?_
          refine z_iload_n 0 dX9_priceOf_168 rfl rfl ?_
          refine z_iconst (1 : Int32) dX9_priceOf_169 (by decide) ?_
          refine z_isub dX9_priceOf_170 ?_
          refine z_laload dX9_priceOf_171 hf fun x10 hf => ?_
          refine z_aload_n 2 dX9_priceOf_172 rfl rfl ?_
          refine z_getA dX9_priceOf_173 zc9 (by decide) wf_X9_28 hf fun x11 hf => ?_
          refine z_iload_n 0 dX9_priceOf_176 rfl rfl ?_
          refine z_laload dX9_priceOf_177 hf fun x12 hf => ?_
          refine z_cS_j (d' := d - 1) (As := [.int x7, .long x10, .long x12]) (rest := [.int ((v3 + (-1 : Int32)) - (1 : Int32)), .ref x8]) dX9_priceOf_178 lk_X9_227 hf (fun w1 e1 => zc_X9_operate (by omega) e1) (by omega) rfl rfl (Nat.le_of_ble_eq_true rfl) fun y13 hf => ?_
          refine z_lastore dX9_priceOf_181 hf fun h14 hf => ?_
          exact Z.sub [2, 3, 4, 0, 5] rfl (hj182 (v3 + (-1 : Int32)) v4 h14 hf)
        · refine z_iinc (v4 + (1 : Int32)) 5 [(4, .int (v4 + (1 : Int32))), (5, .int x7), (0, .ref v0), (1, .int v1), (2, .int v2), (3, .int v3)] dX9_priceOf_49 rfl rfl (by decide) rfl ?_
          refine z_aload_n 2 dX9_priceOf_52 rfl rfl ?_
          refine z_getA dX9_priceOf_53 zc9 (by decide) wf_X9_17 hf fun x15 hf => ?_
          refine z_sipush (178 : Int32) dX9_priceOf_56 (by decide) ?_
          refine z_iload 0 dX9_priceOf_59 rfl ?_
          refine z_iadd dX9_priceOf_61 ?_
          refine z_iaload dX9_priceOf_62 hf fun x16 hf => ?_
          refine z_istore [(6, .int x16), (4, .int (v4 + (1 : Int32))), (5, .int x7), (0, .ref v0), (1, .int v1), (2, .int v2), (3, .int v3)] dX9_priceOf_63 (by decide) rfl ?_
          refine z_aload_n 3 dX9_priceOf_65 rfl rfl ?_
          refine z_getA dX9_priceOf_66 zc9 (by decide) wf_X9_28 hf fun x17 hf => ?_
          refine z_iload_n 6 dX9_priceOf_69 rfl rfl ?_
          refine z_iload 2 dX9_priceOf_70 rfl ?_
          refine zjn_elim (P := fun (j145 : Int32 → Int32 → Nat → Int32 → Int64 → zH → Option (Int32 × zH)) => ∀ (v3 : Int32) (v4 : Int32) (s0 : Nat) (s1 : Int32) (s2 : Int64) (h : zH), j145 v3 v4 s0 s1 s2 h = some w → Z Γ m_X9_priceOf d h0 (zoI w) 145 [(0, .ref v0), (1, .int v1), (2, .int v2), (3, .int v3), (4, .int v4)] [.long s2, .int s1, .ref s0] h) hf (fun v3 v4 s0 s1 s2 h hf => ?_) (fun j145 hj145 hf => ?_)
          · refine z_lastore dX9_priceOf_145 hf fun h27 hf => ?_
            refine z_iinc (v3 + (1 : Int32)) 3 [(3, .int (v3 + (1 : Int32))), (0, .ref v0), (1, .int v1), (2, .int v2), (4, .int v4)] dX9_priceOf_146 rfl rfl (by decide) rfl ?_
            refine z_goto 182 dX9_priceOf_149 (by decide) ?_
            exact Z.sub [1, 2, 3, 0, 4] rfl (hj182 (v3 + (1 : Int32)) v4 h27 hf)
          · refine z_if_ne 81 dX9_priceOf_72 (by decide) hf (fun hf => ?_) (fun hf => ?_)
            · refine z_iload 0 dX9_priceOf_75 rfl ?_
              refine z_i2l dX9_priceOf_77 ?_
              refine z_goto 145 dX9_priceOf_78 (by decide) ?_
              exact Z.sub [3, 4, 5, 6, 1] rfl (hj145 v3 (v4 + (1 : Int32)) x17 v3 x16.toInt64 h hf)
            · refine z_iload 0 dX9_priceOf_81 rfl ?_
              refine z_if_ne 96 dX9_priceOf_83 (by decide) hf (fun hf => ?_) (fun hf => ?_)
              · refine z_aload_n 3 dX9_priceOf_86 rfl rfl ?_
                refine z_iload_n 4 dX9_priceOf_87 rfl rfl ?_
                refine z_iload_n 5 dX9_priceOf_88 rfl rfl ?_
                refine z_cV_i (d' := d - 1) (As := [.int v1, .int v2]) (rest := [.int v3, .ref x17]) dX9_priceOf_89 lk_X9_218 rfl hf (fun w1 e1 => zc_X9_baseOf (by omega) e1) (by omega) rfl rfl (Nat.le_of_ble_eq_true rfl) fun y26 hf => ?_
                refine z_i2l dX9_priceOf_92 ?_
                refine z_goto 145 dX9_priceOf_93 (by decide) ?_
                exact Z.sub [3, 4, 5, 6, 1] rfl (hj145 v3 (v4 + (1 : Int32)) x17 v3 y26.1.toInt64 y26.2 hf)
              · refine z_iload 0 dX9_priceOf_96 rfl ?_
                refine z_iconst (1 : Int32) dX9_priceOf_98 (by decide) ?_
                refine z_icmp_ne 121 dX9_priceOf_99 (by decide) hf (fun hf => ?_) (fun hf => ?_)
                · refine z_aload_n 3 dX9_priceOf_102 rfl rfl ?_
                  refine z_iload_n 4 dX9_priceOf_103 rfl rfl ?_
                  refine z_iload_n 5 dX9_priceOf_104 rfl rfl ?_
                  refine z_cV_i (d' := d - 1) (As := [.int v1, .int v2]) (rest := [.int v3, .ref x17]) dX9_priceOf_105 lk_X9_221 rfl hf (fun w1 e1 => zc_X9_elementOf (by omega) e1) (by omega) rfl rfl (Nat.le_of_ble_eq_true rfl) fun y22 hf => ?_
                  refine z_aload_n 3 dX9_priceOf_108 rfl rfl ?_
                  refine z_getA dX9_priceOf_109 zc9 (by decide) wf_X9_17 hf fun x23 hf => ?_
                  refine z_iconst (0 : Int32) dX9_priceOf_112 (by decide) ?_
                  refine z_iaload dX9_priceOf_113 hf fun x24 hf => ?_
                  refine z_cS_i (d' := d - 1) (As := [.int y22.1, .int x24]) (rest := [.int v3, .ref x17]) dX9_priceOf_114 lk_X9_224 hf (fun w1 e1 => zc_X9_orderOf (by omega) e1) (by omega) rfl rfl (Nat.le_of_ble_eq_true rfl) fun y25 hf => ?_
                  refine z_i2l dX9_priceOf_117 ?_
                  refine z_goto 145 dX9_priceOf_118 (by decide) ?_
                  exact Z.sub [3, 4, 5, 6, 1] rfl (hj145 v3 (v4 + (1 : Int32)) x17 v3 y25.1.toInt64 y25.2 hf)
                · refine z_iload 0 dX9_priceOf_121 rfl ?_
                  refine z_iconst (2 : Int32) dX9_priceOf_123 (by decide) ?_
                  refine z_icmp_ne 137 dX9_priceOf_124 (by decide) hf (fun hf => ?_) (fun hf => ?_)
                  · refine z_aload_n 3 dX9_priceOf_127 rfl rfl ?_
                    refine z_getA dX9_priceOf_128 zc9 (by decide) wf_X9_17 hf fun x20 hf => ?_
                    refine z_iconst (5 : Int32) dX9_priceOf_131 (by decide) ?_
                    refine z_iaload dX9_priceOf_132 hf fun x21 hf => ?_
                    refine z_i2l dX9_priceOf_133 ?_
                    refine z_goto 145 dX9_priceOf_134 (by decide) ?_
                    exact Z.sub [3, 4, 5, 6, 1] rfl (hj145 v3 (v4 + (1 : Int32)) x17 v3 x21.toInt64 h hf)
                  · refine z_aload_n 3 dX9_priceOf_137 rfl rfl ?_
                    refine z_getA dX9_priceOf_138 zc9 (by decide) wf_X9_17 hf fun x18 hf => ?_
                    refine z_bipush (6 : Int32) dX9_priceOf_141 (by decide) ?_
                    refine z_iaload dX9_priceOf_143 hf fun x19 hf => ?_
                    refine z_i2l dX9_priceOf_144 ?_
                    exact Z.sub [3, 4, 5, 6, 1] rfl (hj145 v3 (v4 + (1 : Int32)) x17 v3 x19.toInt64 h hf)
set_option maxRecDepth 4000 in
theorem zc_X9_priceOf {Γ : zG} {N d : Nat} (hd : 13 ≤ d) {a : Nat} {p1 : Int32} {p2 : Int32} {h : zH} {w : Int32 × zH} (hf : f_X9_priceOf N a p1 p2 h = some w) : Zm Γ m_X9_priceOf d [.ref a, .int p1, .int p2] h (zoI w) := by
  unfold f_X9_priceOf at hf
  refine z_meth rfl (plainFor_of_name wpl_X9) (by simp [lg_sl, Value.category, zml, m_X9_priceOf]) ?_
  refine z_iconst (0 : Int32) dX9_priceOf_0 (by decide) ?_
  refine z_istore_n [(3, .int (0 : Int32)), (0, .ref a), (1, .int p1), (2, .int p2)] dX9_priceOf_1 rfl (by decide) rfl ?_
  refine z_aload_n 1 dX9_priceOf_2 rfl rfl ?_
  refine z_getA dX9_priceOf_3 zc9 (by decide) wf_X9_28 hf fun x1 hf => ?_
  refine z_iconst (0 : Int32) dX9_priceOf_6 (by decide) ?_
  refine z_aload_n 1 dX9_priceOf_7 rfl rfl ?_
  refine z_iload_n 2 dX9_priceOf_8 rfl rfl ?_
  refine z_iload_n 3 dX9_priceOf_9 rfl rfl ?_
  refine z_cV_i (d' := d - 1) (As := [.int p1, .int p2]) (rest := [.int (0 : Int32), .ref x1]) dX9_priceOf_10 lk_X9_218 rfl hf (fun w1 e1 => zc_X9_baseOf (by omega) e1) (by omega) rfl rfl (Nat.le_of_ble_eq_true rfl) fun y2 hf => ?_
  refine z_i2l dX9_priceOf_13 ?_
  refine z_lastore dX9_priceOf_14 hf fun h3 hf => ?_
  refine z_iconst (0 : Int32) dX9_priceOf_15 (by decide) ?_
  refine z_istore [(4, .int (0 : Int32)), (3, .int (0 : Int32)), (0, .ref a), (1, .int p1), (2, .int p2)] dX9_priceOf_16 (by decide) rfl ?_
  refine Z.sub [2, 3, 4, 1, 0] rfl (zl_X9_priceOf_18 hd (fun h28 hf => ?_) N (0 : Int32) (0 : Int32) h3 hf)
  · refine z_aload_n 0 dX9_priceOf_188 rfl rfl ?_
    refine z_getA dX9_priceOf_189 zc9 (by decide) wf_X9_28 hf fun x29 hf => ?_
    refine z_iconst (0 : Int32) dX9_priceOf_192 (by decide) ?_
    refine z_laload dX9_priceOf_193 hf fun x30 hf => ?_
    refine z_lconst (0 : Int64) dX9_priceOf_194 (by decide) ?_
    refine z_lcmp dX9_priceOf_195 ?_
    refine z_if_ge 203 dX9_priceOf_196 (by decide) hf (fun hf => ?_) (fun hf => ?_)
    · refine z_aload_n 0 dX9_priceOf_203 rfl rfl ?_
      refine z_getA dX9_priceOf_204 zc9 (by decide) wf_X9_28 hf fun x31 hf => ?_
      refine z_iconst (0 : Int32) dX9_priceOf_207 (by decide) ?_
      refine z_laload dX9_priceOf_208 hf fun x32 hf => ?_
      refine z_ldc2 (9999 : Int64) dX9_priceOf_209 wk_X9_231 ?_
      refine z_lcmp dX9_priceOf_212 ?_
      refine z_if_le 222 dX9_priceOf_213 (by decide) hf (fun hf => ?_) (fun hf => ?_)
      · refine z_aload_n 0 dX9_priceOf_222 rfl rfl ?_
        refine z_getA dX9_priceOf_223 zc9 (by decide) wf_X9_28 hf fun x33 hf => ?_
        refine z_iconst (0 : Int32) dX9_priceOf_226 (by decide) ?_
        refine z_laload dX9_priceOf_227 hf fun x34 hf => ?_
        refine z_l2i dX9_priceOf_228 ?_
        exact z_iret dX9_priceOf_229 rfl (by cases hf; rfl)
      · refine z_sipush (9999 : Int32) dX9_priceOf_216 (by decide) ?_
        refine z_goto 229 dX9_priceOf_219 (by decide) ?_
        exact z_iret dX9_priceOf_229 rfl (by cases hf; rfl)
    · refine z_iconst (0 : Int32) dX9_priceOf_199 (by decide) ?_
      refine z_goto 229 dX9_priceOf_200 (by decide) ?_
      exact z_iret dX9_priceOf_229 rfl (by cases hf; rfl)
set_option maxRecDepth 4000 in
theorem zc_X9_toldCard {Γ : zG} {N d : Nat} (hd : 14 ≤ d) {a : Nat} {p1 : Int32} {p2 : Int32} {p3 : Int32} {h : zH} {w : Int32 × zH} (hf : f_X9_toldCard N a p1 p2 p3 h = some w) : Zm Γ m_X9_toldCard d [.ref a, .int p1, .int p2, .int p3] h (zoI w) := by
  unfold f_X9_toldCard at hf
  refine z_meth rfl (plainFor_of_name wpl_X9) (by simp [lg_sl, Value.category, zml, m_X9_toldCard]) ?_
  refine z_iload_n 3 dX9_toldCard_0 rfl rfl ?_
  refine z_if_ne 13 dX9_toldCard_1 (by decide) hf (fun hf => ?_) (fun hf => ?_)
  · refine z_aload_n 0 dX9_toldCard_4 rfl rfl ?_
    refine z_iload_n 1 dX9_toldCard_5 rfl rfl ?_
    refine z_iload_n 2 dX9_toldCard_6 rfl rfl ?_
    refine z_cV_i (d' := d - 1) (As := [.int p1, .int p2]) (rest := []) dX9_toldCard_7 lk_X9_221 rfl hf (fun w1 e1 => zc_X9_elementOf (by omega) e1) (by omega) rfl rfl (Nat.le_of_ble_eq_true rfl) fun y3 hf => ?_
    refine z_goto 33 dX9_toldCard_10 (by decide) ?_
    exact z_iret dX9_toldCard_33 rfl (by cases hf; rfl)
  · refine z_iload_n 3 dX9_toldCard_13 rfl rfl ?_
    refine z_iconst (1 : Int32) dX9_toldCard_14 (by decide) ?_
    refine z_icmp_ne 27 dX9_toldCard_15 (by decide) hf (fun hf => ?_) (fun hf => ?_)
    · refine z_aload_n 0 dX9_toldCard_18 rfl rfl ?_
      refine z_iload_n 1 dX9_toldCard_19 rfl rfl ?_
      refine z_iload_n 2 dX9_toldCard_20 rfl rfl ?_
      refine z_cV_i (d' := d - 1) (As := [.int p1, .int p2]) (rest := []) dX9_toldCard_21 lk_X9_218 rfl hf (fun w1 e1 => zc_X9_baseOf (by omega) e1) (by omega) rfl rfl (Nat.le_of_ble_eq_true rfl) fun y2 hf => ?_
      refine z_goto 33 dX9_toldCard_24 (by decide) ?_
      exact z_iret dX9_toldCard_33 rfl (by cases hf; rfl)
    · refine z_aload_n 0 dX9_toldCard_27 rfl rfl ?_
      refine z_iload_n 1 dX9_toldCard_28 rfl rfl ?_
      refine z_iload_n 2 dX9_toldCard_29 rfl rfl ?_
      refine z_cV_i (d' := d - 1) (As := [.int p1, .int p2]) (rest := []) dX9_toldCard_30 lk_X9_257 rfl hf (fun w1 e1 => zc_X9_priceOf (by omega) e1) (by omega) rfl rfl (Nat.le_of_ble_eq_true rfl) fun y1 hf => ?_
      exact z_iret dX9_toldCard_33 rfl (by cases hf; rfl)
set_option maxRecDepth 4000 in
theorem zj_X9_card_56 {Γ : zG} {N d : Nat} {h0 : zH} (hd : 15 ≤ d) {v0 : Nat} {v1 : Int32} {v2 : Int32} {v3 : Int32} {s0 : Nat} {s1 : Int32} {h : zH} {w : Int32 × zH} (hf : f_X9_card_j56 N v0 v1 v2 v3 s0 s1 h = some w) : Z Γ m_X9_card d h0 (zoI w) 56 [(0, .ref v0), (1, .int v1), (2, .int v2), (3, .int v3)] [.int s1, .ref s0] h := by
  unfold f_X9_card_j56 at hf
  refine z_iconst (3 : Int32) dX9_card_56 (by decide) ?_
  refine z_cV_i (d' := d - 1) (As := [.int s1, .int (3 : Int32)]) (rest := []) dX9_card_57 lk_X9_185 rfl hf (fun w1 e1 => zc_X9_fails (by omega) e1) (by omega) rfl rfl (Nat.le_of_ble_eq_true rfl) fun y7 hf => ?_
  refine z_if_eq 67 dX9_card_60 (by decide) hf (fun hf => ?_) (fun hf => ?_)
  · refine z_aload_n 0 dX9_card_67 rfl rfl ?_
    refine z_iload_n 1 dX9_card_68 rfl rfl ?_
    refine z_iload_n 2 dX9_card_69 rfl rfl ?_
    refine z_iload_n 3 dX9_card_70 rfl rfl ?_
    refine z_cV_i (d' := d - 1) (As := [.int v1, .int v2, .int v3]) (rest := []) dX9_card_71 lk_X9_260 rfl hf (fun w1 e1 => zc_X9_toldCard (by omega) e1) (by omega) rfl rfl (Nat.le_of_ble_eq_true rfl) fun y8 hf => ?_
    exact z_iret dX9_card_74 rfl (by cases hf; rfl)
  · refine z_iconst (0 : Int32) dX9_card_63 (by decide) ?_
    refine z_goto 74 dX9_card_64 (by decide) ?_
    exact z_iret dX9_card_74 rfl (by cases hf; rfl)
set_option maxRecDepth 4000 in
theorem zj_X9_card_34 {Γ : zG} {N d : Nat} {h0 : zH} (hd : 15 ≤ d) {v0 : Nat} {v1 : Int32} {v2 : Int32} {v3 : Int32} {s0 : Nat} {s1 : Int32} {h : zH} {w : Int32 × zH} (hf : f_X9_card_j34 N v0 v1 v2 v3 s0 s1 h = some w) : Z Γ m_X9_card d h0 (zoI w) 34 [(0, .ref v0), (1, .int v1), (2, .int v2), (3, .int v3)] [.int s1, .ref s0] h := by
  unfold f_X9_card_j34 at hf
  refine z_iconst (2 : Int32) dX9_card_34 (by decide) ?_
  refine z_cV_i (d' := d - 1) (As := [.int s1, .int (2 : Int32)]) (rest := []) dX9_card_35 lk_X9_185 rfl hf (fun w1 e1 => zc_X9_fails (by omega) e1) (by omega) rfl rfl (Nat.le_of_ble_eq_true rfl) fun y5 hf => ?_
  refine z_if_ne 63 dX9_card_38 (by decide) hf (fun hf => ?_) (fun hf => ?_)
  · refine z_aload_n 0 dX9_card_41 rfl rfl ?_
    refine z_iload_n 3 dX9_card_42 rfl rfl ?_
    refine z_iconst (0 : Int32) dX9_card_43 (by decide) ?_
    refine z_iconst (2 : Int32) dX9_card_44 (by decide) ?_
    refine z_cS_i (d' := d - 1) (As := [.int v3, .int (0 : Int32), .int (2 : Int32)]) (rest := [.ref v0]) dX9_card_45 lk_X9_79 hf (fun w1 e1 => zc_X9_in (by omega) e1) (by omega) rfl rfl (Nat.le_of_ble_eq_true rfl) fun y6 hf => ?_
    refine z_if_ne 55 dX9_card_48 (by decide) hf (fun hf => ?_) (fun hf => ?_)
    · refine z_iconst (1 : Int32) dX9_card_51 (by decide) ?_
      refine z_goto 56 dX9_card_52 (by decide) ?_
      exact Z.sub [0, 1, 2, 3] rfl (zj_X9_card_56 hd hf)
    · refine z_iconst (0 : Int32) dX9_card_55 (by decide) ?_
      exact Z.sub [0, 1, 2, 3] rfl (zj_X9_card_56 hd hf)
  · refine z_iconst (0 : Int32) dX9_card_63 (by decide) ?_
    refine z_goto 74 dX9_card_64 (by decide) ?_
    exact z_iret dX9_card_74 rfl (by cases hf; rfl)
set_option maxRecDepth 4000 in
theorem zc_X9_card {Γ : zG} {N d : Nat} (hd : 15 ≤ d) {a : Nat} {p1 : Int32} {p2 : Int32} {p3 : Int32} {h : zH} {w : Int32 × zH} (hf : f_X9_card N a p1 p2 p3 h = some w) : Zm Γ m_X9_card d [.ref a, .int p1, .int p2, .int p3] h (zoI w) := by
  unfold f_X9_card at hf
  refine z_meth rfl (plainFor_of_name wpl_X9) (by simp [lg_sl, Value.category, zml, m_X9_card]) ?_
  refine z_aload_n 0 dX9_card_0 rfl rfl ?_
  refine z_iconst (0 : Int32) dX9_card_1 (by decide) ?_
  refine z_putB dX9_card_2 zc9 (by decide) wf_X9_46 (Or.inl rfl) rfl rfl hf fun h1 hf => ?_
  refine z_aload_n 0 dX9_card_5 rfl rfl ?_
  refine z_iload_n 1 dX9_card_6 rfl rfl ?_
  refine z_cV_i (d' := d - 1) (As := [.int p1]) (rest := []) dX9_card_7 lk_X9_254 rfl hf (fun w1 e1 => zc_X9_noPlayer (by omega) e1) (by omega) rfl rfl (Nat.le_of_ble_eq_true rfl) fun y2 hf => ?_
  refine z_if_ne 63 dX9_card_10 (by decide) hf (fun hf => ?_) (fun hf => ?_)
  · refine z_aload_n 0 dX9_card_13 rfl rfl ?_
    refine z_iload_n 2 dX9_card_14 rfl rfl ?_
    refine z_iconst (0 : Int32) dX9_card_15 (by decide) ?_
    refine z_aload_n 0 dX9_card_16 rfl rfl ?_
    refine z_iload_n 1 dX9_card_17 rfl rfl ?_
    refine z_cV_i (d' := d - 1) (As := [.int p1]) (rest := [.int (0 : Int32), .int p2, .ref a]) dX9_card_18 lk_X9_242 rfl hf (fun w1 e1 => zc_X9_cardsOf (by omega) e1) (by omega) rfl rfl (Nat.le_of_ble_eq_true rfl) fun y3 hf => ?_
    refine z_iconst (1 : Int32) dX9_card_21 (by decide) ?_
    refine z_isub dX9_card_22 ?_
    refine z_cS_i (d' := d - 1) (As := [.int p2, .int (0 : Int32), .int (y3.1 - (1 : Int32))]) (rest := [.ref a]) dX9_card_23 lk_X9_79 hf (fun w1 e1 => zc_X9_in (by omega) e1) (by omega) rfl rfl (Nat.le_of_ble_eq_true rfl) fun y4 hf => ?_
    refine z_if_ne 33 dX9_card_26 (by decide) hf (fun hf => ?_) (fun hf => ?_)
    · refine z_iconst (1 : Int32) dX9_card_29 (by decide) ?_
      refine z_goto 34 dX9_card_30 (by decide) ?_
      exact Z.sub [0, 1, 2, 3] rfl (zj_X9_card_34 hd hf)
    · refine z_iconst (0 : Int32) dX9_card_33 (by decide) ?_
      exact Z.sub [0, 1, 2, 3] rfl (zj_X9_card_34 hd hf)
  · refine z_iconst (0 : Int32) dX9_card_63 (by decide) ?_
    refine z_goto 74 dX9_card_64 (by decide) ?_
    exact z_iret dX9_card_74 rfl (by cases hf; rfl)
set_option maxRecDepth 4000 in
theorem zc_X8_bid {Γ : zG} {N d : Nat} (hd : 13 ≤ d) {a : Nat} {p1 : Int32} {p2 : Int32} {h : zH} {w : (Int32 ⊕ Nat) × zH} (hf : f_X8_bid N a p1 p2 h = some w) : Zm Γ m_X8_bid d [.ref a, .int p1, .int p2] h (zoTI w) := by
  unfold f_X8_bid at hf
  refine z_meth rfl (plainFor_of_name wpl_X8) (by simp [lg_sl, Value.category, zml, m_X8_bid]) ?_
  refine z_aload_n 0 dX8_bid_0 rfl rfl ?_
  refine z_getA dX8_bid_1 zc8 (by decide) wf_X8_28 hf fun x1 hf => ?_
  refine z_getA dX8_bid_4 zc0 (by decide) wf_X8_107 hf fun x2 hf => ?_
  refine z_iload_n 1 dX8_bid_7 rfl rfl ?_
  refine z_cV_i (d' := d - 1) (As := [.int p1]) (rest := []) dX8_bid_8 lk_X8_134 rfl hf (fun w1 e1 => zc_X6_holds (by omega) e1) (by omega) rfl rfl (Nat.le_of_ble_eq_true rfl) fun y3 hf => ?_
  refine z_if_ne 22 dX8_bid_11 (by decide) hf (fun hf => ?_) (fun hf => ?_)
  · exact z_throw 3 (by decide) dX8_bid_14 dX8_bid_17 dX8_bid_18 dX8_bid_21 wc_X8_138 wi_x3 wx_X8_140a wx_X8_140b (by omega) rfl (Nat.le_of_ble_eq_true rfl) (by cases hf; rfl)
  · refine z_iload_n 2 dX8_bid_22 rfl rfl ?_
    by_cases c0 : p2 = (0 : Int32)
    · rw [if_pos c0] at hf
      refine z_tableIn 48 dX8_bid_23 (by rw [c0]; decide) (by rw [c0]; decide) (by rw [c0]; rfl) (by decide) ?_
      refine z_aload_n 0 dX8_bid_48 rfl rfl ?_
      refine z_getA dX8_bid_49 zc8 (by decide) wf_X8_28 hf fun x4 hf => ?_
      refine z_getA dX8_bid_52 zc0 (by decide) wf_X8_154 hf fun x5 hf => ?_
      refine z_iload_n 1 dX8_bid_55 rfl rfl ?_
      refine z_cV_i (d' := d - 1) (As := [.int p1]) (rest := []) dX8_bid_56 lk_X8_141 rfl hf (fun w1 e1 => zc_X6_at (by omega) e1) (by omega) rfl rfl (Nat.le_of_ble_eq_true rfl) fun y6 hf => ?_
      exact z_iret dX8_bid_59 rfl (by cases hf; rfl)
    · rw [if_neg c0] at hf
      by_cases c1 : p2 = (1 : Int32)
      · rw [if_pos c1] at hf
        refine z_tableIn 60 dX8_bid_23 (by rw [c1]; decide) (by rw [c1]; decide) (by rw [c1]; rfl) (by decide) ?_
        refine z_aload_n 0 dX8_bid_60 rfl rfl ?_
        refine z_aload_n 0 dX8_bid_61 rfl rfl ?_
        refine z_getA dX8_bid_62 zc8 (by decide) wf_X8_28 hf fun x7 hf => ?_
        refine z_getA dX8_bid_65 zc0 (by decide) wf_X8_107 hf fun x8 hf => ?_
        refine z_iload_n 1 dX8_bid_68 rfl rfl ?_
        refine z_cV_i (d' := d - 1) (As := [.int p1]) (rest := [.ref a]) dX8_bid_69 lk_X8_141 rfl hf (fun w1 e1 => zc_X6_at (by omega) e1) (by omega) rfl rfl (Nat.le_of_ble_eq_true rfl) fun y9 hf => ?_
        refine z_cV_i (d' := d - 1) (As := [.int y9.1]) (rest := []) dX8_bid_72 lk_X8_144 rfl hf (fun w1 e1 => zc_X8_numberOf (by omega) e1) (by omega) rfl rfl (Nat.le_of_ble_eq_true rfl) fun y10 hf => ?_
        exact z_iret dX8_bid_75 rfl (by cases hf; rfl)
      · rw [if_neg c1] at hf
        by_cases c2 : p2 = (2 : Int32)
        · rw [if_pos c2] at hf
          refine z_tableIn 76 dX8_bid_23 (by rw [c2]; decide) (by rw [c2]; decide) (by rw [c2]; rfl) (by decide) ?_
          refine z_aload_n 0 dX8_bid_76 rfl rfl ?_
          refine z_getA dX8_bid_77 zc8 (by decide) wf_X8_28 hf fun x11 hf => ?_
          refine z_getA dX8_bid_80 zc0 (by decide) wf_X8_157 hf fun x12 hf => ?_
          refine z_iload_n 1 dX8_bid_83 rfl rfl ?_
          refine z_cV_i (d' := d - 1) (As := [.int p1]) (rest := []) dX8_bid_84 lk_X8_141 rfl hf (fun w1 e1 => zc_X6_at (by omega) e1) (by omega) rfl rfl (Nat.le_of_ble_eq_true rfl) fun y13 hf => ?_
          exact z_iret dX8_bid_87 rfl (by cases hf; rfl)
        · rw [if_neg c2] at hf
          refine z_tableOut 88 dX8_bid_23 (by have q := z_sw_out (x := p2) (lo := (0 : Int)) (n := 3) (by decide) (by decide) (lt_s (i := 2) (lt_s (i := 1) (lt_s (i := 0) lt_0 (fun e => c0 (e.trans (by decide)))) (fun e => c1 (e.trans (by decide)))) (fun e => c2 (e.trans (by decide)))); omega) (by decide) ?_
          exact z_throw 1 (by decide) dX8_bid_88 dX8_bid_91 dX8_bid_92 dX8_bid_95 wc_X8_62 wi_x1 wx_X8_64a wx_X8_64b (by omega) rfl (Nat.le_of_ble_eq_true rfl) (by cases hf; rfl)
set_option maxRecDepth 4000 in
theorem zc_L_bid {Γ : zG} {N d : Nat} (hd : 14 ≤ d) {p1 : Nat} {p2 : Int32} {p3 : Int32} {p4 : Nat} {h : zH} {w : Int32 × zH} (hf : f_L_bid N p1 p2 p3 p4 h = some w) : Zm Γ m_L_bid d [.ref p1, .int p2, .int p3, .ref p4] h (zoI w) := by
  unfold f_L_bid at hf
  refine z_methH (by decide) (by decide +kernel) (by simp [lg_sl, Value.category, zml, m_L_bid]) ?_
  refine z_aload_n 3 dL_bid_0 rfl rfl ?_
  refine z_iconst (0 : Int32) dL_bid_1 (by decide) ?_
  refine z_aload_n 0 dL_bid_2 rfl rfl ?_
  refine z_iload_n 1 dL_bid_3 rfl rfl ?_
  refine z_iload_n 2 dL_bid_4 rfl rfl ?_
  refine z_cV_ti (d' := d - 1) (As := [.int p2, .int p3]) (rest := [.int (0 : Int32), .ref p4]) dL_bid_5 lk_L_30 rfl hf (fun w1 e1 => zc_X8_bid (by omega) e1) (by omega) rfl rfl (Nat.le_of_ble_eq_true rfl) (fun y1 x2 hf => ?_) (fun y1 k3 hf => ?_)
  · refine z_i2l dL_bid_8 ?_
    refine z_lastore dL_bid_9 hf fun h4 hf => ?_
    refine z_goto 21 dL_bid_10 (by decide) ?_
    refine z_iconst (0 : Int32) dL_bid_21 (by decide) ?_
    exact z_iret dL_bid_22 rfl (by cases hf; rfl)
  · by_cases e0 : k3 = 3
    · rw [if_pos e0] at hf
      subst e0
      refine zx_catch (by decide) [] (0, 10, 13, 28) [(0, 10, 17, 13)] rfl (fun z hz => absurd hz List.not_mem_nil) (by decide) (by decide) wc_L_28 wct_3 fun q5 => ?_
      refine z_astore [(4, .ref q5), (0, .ref p1), (1, .int p2), (2, .int p3), (3, .ref p4)] dL_bid_13 (by decide) rfl ?_
      refine z_iconst (1 : Int32) dL_bid_15 (by decide) ?_
      exact z_iret dL_bid_16 rfl (by cases hf; rfl)
    · rw [if_neg e0] at hf
      by_cases e1 : k3 = 1
      · rw [if_pos e1] at hf
        subst e1
        refine zx_catch (by decide) [(0, 10, 13, 28)] (0, 10, 17, 13) [] rfl (List.forall_mem_cons.mpr ⟨⟨by decide, 3, by decide, by decide, wc_L_28⟩, fun z hz => absurd hz List.not_mem_nil⟩) (by decide) (by decide) wc_L_13 wct_1 fun q6 => ?_
        refine z_astore [(4, .ref q6), (0, .ref p1), (1, .int p2), (2, .int p3), (3, .ref p4)] dL_bid_17 (by decide) rfl ?_
        refine z_iconst (2 : Int32) dL_bid_19 (by decide) ?_
        exact z_iret dL_bid_20 rfl (by cases hf; rfl)
      · rw [if_neg e1] at hf
        cases hf
set_option maxRecDepth 4000 in
theorem zc_X9_ofBid {Γ : zG} {N d : Nat} (hd : 10 ≤ d) {a : Nat} {p1 : Int32} {p2 : Int32} {h : zH} {w : Int32 × zH} (hf : f_X9_ofBid N a p1 p2 h = some w) : Zm Γ m_X9_ofBid d [.ref a, .int p1, .int p2] h (zoI w) := by
  unfold f_X9_ofBid at hf
  refine z_meth rfl (plainFor_of_name wpl_X9) (by simp [lg_sl, Value.category, zml, m_X9_ofBid]) ?_
  refine z_aload_n 0 dX9_ofBid_0 rfl rfl ?_
  refine z_getA dX9_ofBid_1 zc9 (by decide) wf_X9_17 hf fun x1 hf => ?_
  refine z_bipush (118 : Int32) dX9_ofBid_4 (by decide) ?_
  refine z_iconst (3 : Int32) dX9_ofBid_6 (by decide) ?_
  refine z_iload_n 1 dX9_ofBid_7 rfl rfl ?_
  refine z_imul dX9_ofBid_8 ?_
  refine z_iadd dX9_ofBid_9 ?_
  refine z_iload_n 2 dX9_ofBid_10 rfl rfl ?_
  refine z_iadd dX9_ofBid_11 ?_
  refine z_iaload dX9_ofBid_12 hf fun x2 hf => ?_
  exact z_iret dX9_ofBid_13 rfl (by cases hf; rfl)
set_option maxRecDepth 4000 in
theorem zj_X9_bid_49 {Γ : zG} {N d : Nat} {h0 : zH} (hd : 11 ≤ d) {v0 : Nat} {v1 : Int32} {v2 : Int32} {s0 : Nat} {s1 : Int32} {h : zH} {w : Int32 × zH} (hf : f_X9_bid_j49 N v0 v1 v2 s0 s1 h = some w) : Z Γ m_X9_bid d h0 (zoI w) 49 [(0, .ref v0), (1, .int v1), (2, .int v2)] [.int s1, .ref s0] h := by
  unfold f_X9_bid_j49 at hf
  refine z_iconst (2 : Int32) dX9_bid_49 (by decide) ?_
  refine z_cV_i (d' := d - 1) (As := [.int s1, .int (2 : Int32)]) (rest := []) dX9_bid_50 lk_X9_185 rfl hf (fun w1 e1 => zc_X9_fails (by omega) e1) (by omega) rfl rfl (Nat.le_of_ble_eq_true rfl) fun y7 hf => ?_
  refine z_if_eq 60 dX9_bid_53 (by decide) hf (fun hf => ?_) (fun hf => ?_)
  · refine z_aload_n 0 dX9_bid_60 rfl rfl ?_
    refine z_iload_n 1 dX9_bid_61 rfl rfl ?_
    refine z_iload_n 2 dX9_bid_62 rfl rfl ?_
    refine z_cV_i (d' := d - 1) (As := [.int v1, .int v2]) (rest := []) dX9_bid_63 lk_X9_204 rfl hf (fun w1 e1 => zc_X9_ofBid (by omega) e1) (by omega) rfl rfl (Nat.le_of_ble_eq_true rfl) fun y8 hf => ?_
    exact z_iret dX9_bid_66 rfl (by cases hf; rfl)
  · refine z_iconst (0 : Int32) dX9_bid_56 (by decide) ?_
    refine z_goto 66 dX9_bid_57 (by decide) ?_
    exact z_iret dX9_bid_66 rfl (by cases hf; rfl)
set_option maxRecDepth 4000 in
theorem zj_X9_bid_27 {Γ : zG} {N d : Nat} {h0 : zH} (hd : 11 ≤ d) {v0 : Nat} {v1 : Int32} {v2 : Int32} {s0 : Nat} {s1 : Int32} {h : zH} {w : Int32 × zH} (hf : f_X9_bid_j27 N v0 v1 v2 s0 s1 h = some w) : Z Γ m_X9_bid d h0 (zoI w) 27 [(0, .ref v0), (1, .int v1), (2, .int v2)] [.int s1, .ref s0] h := by
  unfold f_X9_bid_j27 at hf
  refine z_iconst (1 : Int32) dX9_bid_27 (by decide) ?_
  refine z_cV_i (d' := d - 1) (As := [.int s1, .int (1 : Int32)]) (rest := []) dX9_bid_28 lk_X9_185 rfl hf (fun w1 e1 => zc_X9_fails (by omega) e1) (by omega) rfl rfl (Nat.le_of_ble_eq_true rfl) fun y5 hf => ?_
  refine z_if_ne 56 dX9_bid_31 (by decide) hf (fun hf => ?_) (fun hf => ?_)
  · refine z_aload_n 0 dX9_bid_34 rfl rfl ?_
    refine z_iload_n 2 dX9_bid_35 rfl rfl ?_
    refine z_iconst (0 : Int32) dX9_bid_36 (by decide) ?_
    refine z_iconst (2 : Int32) dX9_bid_37 (by decide) ?_
    refine z_cS_i (d' := d - 1) (As := [.int v2, .int (0 : Int32), .int (2 : Int32)]) (rest := [.ref v0]) dX9_bid_38 lk_X9_79 hf (fun w1 e1 => zc_X9_in (by omega) e1) (by omega) rfl rfl (Nat.le_of_ble_eq_true rfl) fun y6 hf => ?_
    refine z_if_ne 48 dX9_bid_41 (by decide) hf (fun hf => ?_) (fun hf => ?_)
    · refine z_iconst (1 : Int32) dX9_bid_44 (by decide) ?_
      refine z_goto 49 dX9_bid_45 (by decide) ?_
      exact Z.sub [0, 1, 2] rfl (zj_X9_bid_49 hd hf)
    · refine z_iconst (0 : Int32) dX9_bid_48 (by decide) ?_
      exact Z.sub [0, 1, 2] rfl (zj_X9_bid_49 hd hf)
  · refine z_iconst (0 : Int32) dX9_bid_56 (by decide) ?_
    refine z_goto 66 dX9_bid_57 (by decide) ?_
    exact z_iret dX9_bid_66 rfl (by cases hf; rfl)
set_option maxRecDepth 4000 in
theorem zc_X9_bid {Γ : zG} {N d : Nat} (hd : 11 ≤ d) {a : Nat} {p1 : Int32} {p2 : Int32} {h : zH} {w : Int32 × zH} (hf : f_X9_bid N a p1 p2 h = some w) : Zm Γ m_X9_bid d [.ref a, .int p1, .int p2] h (zoI w) := by
  unfold f_X9_bid at hf
  refine z_meth rfl (plainFor_of_name wpl_X9) (by simp [lg_sl, Value.category, zml, m_X9_bid]) ?_
  refine z_aload_n 0 dX9_bid_0 rfl rfl ?_
  refine z_iconst (0 : Int32) dX9_bid_1 (by decide) ?_
  refine z_putB dX9_bid_2 zc9 (by decide) wf_X9_46 (Or.inl rfl) rfl rfl hf fun h1 hf => ?_
  refine z_aload_n 0 dX9_bid_5 rfl rfl ?_
  refine z_iload_n 1 dX9_bid_6 rfl rfl ?_
  refine z_iconst (0 : Int32) dX9_bid_7 (by decide) ?_
  refine z_aload_n 0 dX9_bid_8 rfl rfl ?_
  refine z_getA dX9_bid_9 zc9 (by decide) wf_X9_17 hf fun x2 hf => ?_
  refine z_iconst (5 : Int32) dX9_bid_12 (by decide) ?_
  refine z_iaload dX9_bid_13 hf fun x3 hf => ?_
  refine z_iconst (1 : Int32) dX9_bid_14 (by decide) ?_
  refine z_isub dX9_bid_15 ?_
  refine z_cS_i (d' := d - 1) (As := [.int p1, .int (0 : Int32), .int (x3 - (1 : Int32))]) (rest := [.ref a]) dX9_bid_16 lk_X9_79 hf (fun w1 e1 => zc_X9_in (by omega) e1) (by omega) rfl rfl (Nat.le_of_ble_eq_true rfl) fun y4 hf => ?_
  refine z_if_ne 26 dX9_bid_19 (by decide) hf (fun hf => ?_) (fun hf => ?_)
  · refine z_iconst (1 : Int32) dX9_bid_22 (by decide) ?_
    refine z_goto 27 dX9_bid_23 (by decide) ?_
    exact Z.sub [0, 1, 2] rfl (zj_X9_bid_27 hd hf)
  · refine z_iconst (0 : Int32) dX9_bid_26 (by decide) ?_
    exact Z.sub [0, 1, 2] rfl (zj_X9_bid_27 hd hf)
set_option maxRecDepth 4000 in
theorem zl_X0_productOfBids_5 {Γ : zG} {N d : Nat} {h0 : zH} (hd : 12 ≤ d) {v0 : Nat} {v2 : Int32}  {w : Int32 × zH}   : ∀ (n : Nat) (v3 : Int32) (v4 : Int32) (h : zH), f_X0_productOfBids_l5 N v0 v2 n v3 v4 h = some w → Z Γ m_X0_productOfBids d h0 (zoI w) 5 [(0, .ref v0), (2, .int v2), (3, .int v3), (4, .int v4)] [] h := by
  intro n
  induction n with
  | zero => intro v3 v4 h hf; cases hf
  | succ n ih =>
    intro v3 v4 h hf
    rw [f_X0_productOfBids_l5] at hf
    refine z_iload 3 dX0_productOfBids_5 rfl ?_
    refine z_iload_n 1 dX0_productOfBids_7 rfl rfl ?_
    refine z_icmp_ge 35 dX0_productOfBids_8 (by decide) hf (fun hf => ?_) (fun hf => ?_)
    · refine z_iload_n 2 dX0_productOfBids_35 rfl rfl ?_
      exact z_iret dX0_productOfBids_36 rfl (by cases hf; rfl)
    · refine z_aload_n 0 dX0_productOfBids_11 rfl rfl ?_
      refine z_getA dX0_productOfBids_12 zc0 (by decide) wf_X0_9 hf fun x1 hf => ?_
      refine z_iload_n 2 dX0_productOfBids_15 rfl rfl ?_
      refine z_aload_n 0 dX0_productOfBids_16 rfl rfl ?_
      refine z_getA dX0_productOfBids_17 zc0 (by decide) wf_X0_34 hf fun x2 hf => ?_
      refine z_iload 3 dX0_productOfBids_20 rfl ?_
      refine z_cV_i (d' := d - 1) (As := [.int v4]) (rest := [.int v3, .ref x1]) dX0_productOfBids_22 lk_X0_94 rfl hf (fun w1 e1 => zc_X6_at (by omega) e1) (by omega) rfl rfl (Nat.le_of_ble_eq_true rfl) fun y3 hf => ?_
      refine z_cV_i (d' := d - 1) (As := [.int v3, .int y3.1]) (rest := []) dX0_productOfBids_25 lk_X0_98 rfl hf (fun w1 e1 => zc_X2_times (by omega) e1) (by omega) rfl rfl (Nat.le_of_ble_eq_true rfl) fun y4 hf => ?_
      refine z_istore_n [(3, .int y4.1), (0, .ref v0), (2, .int v2), (4, .int v4)] dX0_productOfBids_28 rfl (by decide) rfl ?_
      refine z_iinc (v4 + (1 : Int32)) 3 [(4, .int (v4 + (1 : Int32))), (3, .int y4.1), (0, .ref v0), (2, .int v2)] dX0_productOfBids_29 rfl rfl (by decide) rfl ?_
      refine z_goto 5 dX0_productOfBids_32 (by decide) ?_
      exact Z.sub [2, 3, 1, 0] rfl (ih y4.1 (v4 + (1 : Int32)) y4.2 hf)
set_option maxRecDepth 4000 in
theorem zc_X0_productOfBids {Γ : zG} {N d : Nat} (hd : 12 ≤ d) {a : Nat} {p1 : Int32} {p2 : Int32} {h : zH} {w : Int32 × zH} (hf : f_X0_productOfBids N a p1 p2 h = some w) : Zm Γ m_X0_productOfBids d [.ref a, .int p1, .int p2] h (zoI w) := by
  unfold f_X0_productOfBids at hf
  refine z_meth rfl (plainFor_of_name wpl_X0) (by simp [lg_sl, Value.category, zml, m_X0_productOfBids]) ?_
  refine z_iconst (0 : Int32) dX0_productOfBids_0 (by decide) ?_
  refine z_istore_n [(3, .int (0 : Int32)), (0, .ref a), (1, .int p1), (2, .int p2)] dX0_productOfBids_1 rfl (by decide) rfl ?_
  refine z_iload_n 2 dX0_productOfBids_2 rfl rfl ?_
  refine z_istore [(4, .int p1), (3, .int (0 : Int32)), (0, .ref a), (1, .int p1), (2, .int p2)] dX0_productOfBids_3 (by decide) rfl ?_
  refine Z.sub [2, 4, 1, 0] rfl (zl_X0_productOfBids_5 hd  N (0 : Int32) p1 h hf)
set_option maxRecDepth 4000 in
theorem zc_X8_product {Γ : zG} {N d : Nat} (hd : 13 ≤ d) {a : Nat} {h : zH} {w : Int32 × zH} (hf : f_X8_product N a h = some w) : Zm Γ m_X8_product d [.ref a] h (zoI w) := by
  unfold f_X8_product at hf
  refine z_meth rfl (plainFor_of_name wpl_X8) (by simp [lg_sl, Value.category, zml, m_X8_product]) ?_
  refine z_aload_n 0 dX8_product_0 rfl rfl ?_
  refine z_aload_n 0 dX8_product_1 rfl rfl ?_
  refine z_getA dX8_product_2 zc8 (by decide) wf_X8_28 hf fun x1 hf => ?_
  refine z_iconst (0 : Int32) dX8_product_5 (by decide) ?_
  refine z_aload_n 0 dX8_product_6 rfl rfl ?_
  refine z_getA dX8_product_7 zc8 (by decide) wf_X8_28 hf fun x2 hf => ?_
  refine z_getA dX8_product_10 zc0 (by decide) wf_X8_107 hf fun x3 hf => ?_
  refine z_cV_i (d' := d - 1) (As := []) (rest := [.int (0 : Int32), .ref x1, .ref a]) dX8_product_13 lk_X8_93 rfl hf (fun w1 e1 => zc_X6_size (by omega) e1) (by omega) rfl rfl (Nat.le_of_ble_eq_true rfl) fun y4 hf => ?_
  refine z_cV_i (d' := d - 1) (As := [.int (0 : Int32), .int y4.1]) (rest := [.ref a]) dX8_product_16 lk_X8_160 rfl hf (fun w1 e1 => zc_X0_productOfBids (by omega) e1) (by omega) rfl rfl (Nat.le_of_ble_eq_true rfl) fun y5 hf => ?_
  refine z_cV_i (d' := d - 1) (As := [.int y5.1]) (rest := []) dX8_product_19 lk_X8_144 rfl hf (fun w1 e1 => zc_X8_numberOf (by omega) e1) (by omega) rfl rfl (Nat.le_of_ble_eq_true rfl) fun y6 hf => ?_
  exact z_iret dX8_product_22 rfl (by cases hf; rfl)
set_option maxRecDepth 4000 in
theorem zl_X9_productBetween_13 {Γ : zG} {N d : Nat} {h0 : zH} (hd : 12 ≤ d) {v0 : Nat} {v2 : Int32}  {w : Int32 × zH}   : ∀ (n : Nat) (v3 : Int32) (v4 : Int32) (h : zH), f_X9_productBetween_l13 N v0 v2 n v3 v4 h = some w → Z Γ m_X9_productBetween d h0 (zoI w) 13 [(0, .ref v0), (2, .int v2), (3, .int v3), (4, .int v4)] [] h := by
  intro n
  induction n with
  | zero => intro v3 v4 h hf; cases hf
  | succ n ih =>
    intro v3 v4 h hf
    rw [f_X9_productBetween_l13] at hf
    refine z_iload 3 dX9_productBetween_13 rfl ?_
    refine z_iload_n 1 dX9_productBetween_15 rfl rfl ?_
    refine z_icmp_ge 43 dX9_productBetween_16 (by decide) hf (fun hf => ?_) (fun hf => ?_)
    · refine z_iload_n 2 dX9_productBetween_43 rfl rfl ?_
      exact z_iret dX9_productBetween_44 rfl (by cases hf; rfl)
    · refine z_iload_n 2 dX9_productBetween_19 rfl rfl ?_
      refine z_aload_n 0 dX9_productBetween_20 rfl rfl ?_
      refine z_iload 3 dX9_productBetween_21 rfl ?_
      refine z_iconst (1 : Int32) dX9_productBetween_23 (by decide) ?_
      refine z_cV_i (d' := d - 1) (As := [.int v4, .int (1 : Int32)]) (rest := [.int v3]) dX9_productBetween_24 lk_X9_204 rfl hf (fun w1 e1 => zc_X9_ofBid (by omega) e1) (by omega) rfl rfl (Nat.le_of_ble_eq_true rfl) fun y4 hf => ?_
      refine z_aload_n 0 dX9_productBetween_27 rfl rfl ?_
      refine z_getA dX9_productBetween_28 zc9 (by decide) wf_X9_17 hf fun x5 hf => ?_
      refine z_iconst (0 : Int32) dX9_productBetween_31 (by decide) ?_
      refine z_iaload dX9_productBetween_32 hf fun x6 hf => ?_
      refine z_cS_i (d' := d - 1) (As := [.int v3, .int y4.1, .int x6]) (rest := []) dX9_productBetween_33 lk_X9_58 hf (fun w1 e1 => zc_X9_times (by omega) e1) (by omega) rfl rfl (Nat.le_of_ble_eq_true rfl) fun y7 hf => ?_
      refine z_istore_n [(3, .int y7.1), (0, .ref v0), (2, .int v2), (4, .int v4)] dX9_productBetween_36 rfl (by decide) rfl ?_
      refine z_iinc (v4 + (1 : Int32)) 3 [(4, .int (v4 + (1 : Int32))), (3, .int y7.1), (0, .ref v0), (2, .int v2)] dX9_productBetween_37 rfl rfl (by decide) rfl ?_
      refine z_goto 13 dX9_productBetween_40 (by decide) ?_
      exact Z.sub [2, 3, 1, 0] rfl (ih y7.1 (v4 + (1 : Int32)) y7.2 hf)
set_option maxRecDepth 4000 in
theorem zc_X9_productBetween {Γ : zG} {N d : Nat} (hd : 12 ≤ d) {a : Nat} {p1 : Int32} {p2 : Int32} {h : zH} {w : Int32 × zH} (hf : f_X9_productBetween N a p1 p2 h = some w) : Zm Γ m_X9_productBetween d [.ref a, .int p1, .int p2] h (zoI w) := by
  unfold f_X9_productBetween at hf
  refine z_meth rfl (plainFor_of_name wpl_X9) (by simp [lg_sl, Value.category, zml, m_X9_productBetween]) ?_
  refine z_aload_n 0 dX9_productBetween_0 rfl rfl ?_
  refine z_getA dX9_productBetween_1 zc9 (by decide) wf_X9_17 hf fun x1 hf => ?_
  refine z_iconst (0 : Int32) dX9_productBetween_4 (by decide) ?_
  refine z_iaload dX9_productBetween_5 hf fun x2 hf => ?_
  refine z_cS_i (d' := d - 1) (As := [.int x2]) (rest := []) dX9_productBetween_6 lk_X9_54 hf (fun w1 e1 => zc_X9_neutral (by omega) e1) (by omega) rfl rfl (Nat.le_of_ble_eq_true rfl) fun y3 hf => ?_
  refine z_istore_n [(3, .int y3.1), (0, .ref a), (1, .int p1), (2, .int p2)] dX9_productBetween_9 rfl (by decide) rfl ?_
  refine z_iload_n 2 dX9_productBetween_10 rfl rfl ?_
  refine z_istore [(4, .int p1), (3, .int y3.1), (0, .ref a), (1, .int p1), (2, .int p2)] dX9_productBetween_11 (by decide) rfl ?_
  refine Z.sub [2, 4, 1, 0] rfl (zl_X9_productBetween_13 hd  N y3.1 p1 y3.2 hf)
set_option maxRecDepth 4000 in
theorem zc_X9_productNow {Γ : zG} {N d : Nat} (hd : 13 ≤ d) {a : Nat} {h : zH} {w : Int32 × zH} (hf : f_X9_productNow N a h = some w) : Zm Γ m_X9_productNow d [.ref a] h (zoI w) := by
  unfold f_X9_productNow at hf
  refine z_meth rfl (plainFor_of_name wpl_X9) (by simp [lg_sl, Value.category, zml, m_X9_productNow]) ?_
  refine z_aload_n 0 dX9_productNow_0 rfl rfl ?_
  refine z_iconst (0 : Int32) dX9_productNow_1 (by decide) ?_
  refine z_aload_n 0 dX9_productNow_2 rfl rfl ?_
  refine z_getA dX9_productNow_3 zc9 (by decide) wf_X9_17 hf fun x1 hf => ?_
  refine z_iconst (5 : Int32) dX9_productNow_6 (by decide) ?_
  refine z_iaload dX9_productNow_7 hf fun x2 hf => ?_
  refine z_cV_i (d' := d - 1) (As := [.int (0 : Int32), .int x2]) (rest := []) dX9_productNow_8 lk_X9_207 rfl hf (fun w1 e1 => zc_X9_productBetween (by omega) e1) (by omega) rfl rfl (Nat.le_of_ble_eq_true rfl) fun y3 hf => ?_
  exact z_iret dX9_productNow_11 rfl (by cases hf; rfl)
set_option maxRecDepth 4000 in
theorem zc_X9_product {Γ : zG} {N d : Nat} (hd : 14 ≤ d) {a : Nat} {h : zH} {w : Int32 × zH} (hf : f_X9_product N a h = some w) : Zm Γ m_X9_product d [.ref a] h (zoI w) := by
  unfold f_X9_product at hf
  refine z_meth rfl (plainFor_of_name wpl_X9) (by simp [lg_sl, Value.category, zml, m_X9_product]) ?_
  refine z_aload_n 0 dX9_product_0 rfl rfl ?_
  refine z_iconst (0 : Int32) dX9_product_1 (by decide) ?_
  refine z_putB dX9_product_2 zc9 (by decide) wf_X9_46 (Or.inl rfl) rfl rfl hf fun h1 hf => ?_
  refine z_aload_n 0 dX9_product_5 rfl rfl ?_
  refine z_cV_i (d' := d - 1) (As := []) (rest := []) dX9_product_6 lk_X9_263 rfl hf (fun w1 e1 => zc_X9_productNow (by omega) e1) (by omega) rfl rfl (Nat.le_of_ble_eq_true rfl) fun y2 hf => ?_
  exact z_iret dX9_product_9 rfl (by cases hf; rfl)
set_option maxRecDepth 4000 in
theorem zc_X8_productOf {Γ : zG} {N d : Nat} (hd : 13 ≤ d) {a : Nat} {p1 : Int32} {p2 : Int32} {h : zH} {w : (Int32 ⊕ Nat) × zH} (hf : f_X8_productOf N a p1 p2 h = some w) : Zm Γ m_X8_productOf d [.ref a, .int p1, .int p2] h (zoTI w) := by
  unfold f_X8_productOf at hf
  refine z_meth rfl (plainFor_of_name wpl_X8) (by simp [lg_sl, Value.category, zml, m_X8_productOf]) ?_
  refine z_iload_n 1 dX8_productOf_0 rfl rfl ?_
  refine z_if_lt 23 dX8_productOf_1 (by decide) hf (fun hf => ?_) (fun hf => ?_)
  · exact z_throw 1 (by decide) dX8_productOf_23 dX8_productOf_26 dX8_productOf_27 dX8_productOf_30 wc_X8_62 wi_x1 wx_X8_64a wx_X8_64b (by omega) rfl (Nat.le_of_ble_eq_true rfl) (by cases hf; rfl)
  · refine z_iload_n 2 dX8_productOf_4 rfl rfl ?_
    refine z_iload_n 1 dX8_productOf_5 rfl rfl ?_
    refine z_icmp_lt 23 dX8_productOf_6 (by decide) hf (fun hf => ?_) (fun hf => ?_)
    · exact z_throw 1 (by decide) dX8_productOf_23 dX8_productOf_26 dX8_productOf_27 dX8_productOf_30 wc_X8_62 wi_x1 wx_X8_64a wx_X8_64b (by omega) rfl (Nat.le_of_ble_eq_true rfl) (by cases hf; rfl)
    · refine z_iload_n 2 dX8_productOf_9 rfl rfl ?_
      refine z_aload_n 0 dX8_productOf_10 rfl rfl ?_
      refine z_getA dX8_productOf_11 zc8 (by decide) wf_X8_28 hf fun x1 hf => ?_
      refine z_getA dX8_productOf_14 zc0 (by decide) wf_X8_107 hf fun x2 hf => ?_
      refine z_cV_i (d' := d - 1) (As := []) (rest := [.int p2]) dX8_productOf_17 lk_X8_93 rfl hf (fun w1 e1 => zc_X6_size (by omega) e1) (by omega) rfl rfl (Nat.le_of_ble_eq_true rfl) fun y3 hf => ?_
      refine z_icmp_le 31 dX8_productOf_20 (by decide) hf (fun hf => ?_) (fun hf => ?_)
      · refine z_aload_n 0 dX8_productOf_31 rfl rfl ?_
        refine z_aload_n 0 dX8_productOf_32 rfl rfl ?_
        refine z_getA dX8_productOf_33 zc8 (by decide) wf_X8_28 hf fun x4 hf => ?_
        refine z_iload_n 1 dX8_productOf_36 rfl rfl ?_
        refine z_iload_n 2 dX8_productOf_37 rfl rfl ?_
        refine z_cV_i (d' := d - 1) (As := [.int p1, .int p2]) (rest := [.ref a]) dX8_productOf_38 lk_X8_160 rfl hf (fun w1 e1 => zc_X0_productOfBids (by omega) e1) (by omega) rfl rfl (Nat.le_of_ble_eq_true rfl) fun y5 hf => ?_
        refine z_cV_i (d' := d - 1) (As := [.int y5.1]) (rest := []) dX8_productOf_41 lk_X8_144 rfl hf (fun w1 e1 => zc_X8_numberOf (by omega) e1) (by omega) rfl rfl (Nat.le_of_ble_eq_true rfl) fun y6 hf => ?_
        exact z_iret dX8_productOf_44 rfl (by cases hf; rfl)
      · exact z_throw 1 (by decide) dX8_productOf_23 dX8_productOf_26 dX8_productOf_27 dX8_productOf_30 wc_X8_62 wi_x1 wx_X8_64a wx_X8_64b (by omega) rfl (Nat.le_of_ble_eq_true rfl) (by cases hf; rfl)
set_option maxRecDepth 4000 in
theorem zc_L_productOf {Γ : zG} {N d : Nat} (hd : 14 ≤ d) {p1 : Nat} {p2 : Int32} {p3 : Int32} {p4 : Nat} {h : zH} {w : Int32 × zH} (hf : f_L_productOf N p1 p2 p3 p4 h = some w) : Zm Γ m_L_productOf d [.ref p1, .int p2, .int p3, .ref p4] h (zoI w) := by
  unfold f_L_productOf at hf
  refine z_methH (by decide) (by decide +kernel) (by simp [lg_sl, Value.category, zml, m_L_productOf]) ?_
  refine z_aload_n 3 dL_productOf_0 rfl rfl ?_
  refine z_iconst (0 : Int32) dL_productOf_1 (by decide) ?_
  refine z_aload_n 0 dL_productOf_2 rfl rfl ?_
  refine z_iload_n 1 dL_productOf_3 rfl rfl ?_
  refine z_iload_n 2 dL_productOf_4 rfl rfl ?_
  refine z_cV_ti (d' := d - 1) (As := [.int p2, .int p3]) (rest := [.int (0 : Int32), .ref p4]) dL_productOf_5 lk_L_33 rfl hf (fun w1 e1 => zc_X8_productOf (by omega) e1) (by omega) rfl rfl (Nat.le_of_ble_eq_true rfl) (fun y1 x2 hf => ?_) (fun y1 k3 hf => ?_)
  · refine z_i2l dL_productOf_8 ?_
    refine z_lastore dL_productOf_9 hf fun h4 hf => ?_
    refine z_goto 17 dL_productOf_10 (by decide) ?_
    refine z_iconst (0 : Int32) dL_productOf_17 (by decide) ?_
    exact z_iret dL_productOf_18 rfl (by cases hf; rfl)
  · by_cases e0 : k3 = 1
    · rw [if_pos e0] at hf
      subst e0
      refine zx_catch (by decide) [] (0, 10, 13, 13) [] rfl (fun z hz => absurd hz List.not_mem_nil) (by decide) (by decide) wc_L_13 wct_1 fun q5 => ?_
      refine z_astore [(4, .ref q5), (0, .ref p1), (1, .int p2), (2, .int p3), (3, .ref p4)] dL_productOf_13 (by decide) rfl ?_
      refine z_iconst (1 : Int32) dL_productOf_15 (by decide) ?_
      exact z_iret dL_productOf_16 rfl (by cases hf; rfl)
    · rw [if_neg e0] at hf
      cases hf
set_option maxRecDepth 4000 in
theorem zj_X9_productOf_30 {Γ : zG} {N d : Nat} {h0 : zH} (hd : 13 ≤ d) {v0 : Nat} {v1 : Int32} {v2 : Int32} {s0 : Nat} {s1 : Int32} {h : zH} {w : Int32 × zH} (hf : f_X9_productOf_j30 N v0 v1 v2 s0 s1 h = some w) : Z Γ m_X9_productOf d h0 (zoI w) 30 [(0, .ref v0), (1, .int v1), (2, .int v2)] [.int s1, .ref s0] h := by
  unfold f_X9_productOf_j30 at hf
  refine z_iconst (1 : Int32) dX9_productOf_30 (by decide) ?_
  refine z_cV_i (d' := d - 1) (As := [.int s1, .int (1 : Int32)]) (rest := []) dX9_productOf_31 lk_X9_185 rfl hf (fun w1 e1 => zc_X9_fails (by omega) e1) (by omega) rfl rfl (Nat.le_of_ble_eq_true rfl) fun y2 hf => ?_
  refine z_if_eq 41 dX9_productOf_34 (by decide) hf (fun hf => ?_) (fun hf => ?_)
  · refine z_aload_n 0 dX9_productOf_41 rfl rfl ?_
    refine z_iload_n 1 dX9_productOf_42 rfl rfl ?_
    refine z_iload_n 2 dX9_productOf_43 rfl rfl ?_
    refine z_cV_i (d' := d - 1) (As := [.int v1, .int v2]) (rest := []) dX9_productOf_44 lk_X9_207 rfl hf (fun w1 e1 => zc_X9_productBetween (by omega) e1) (by omega) rfl rfl (Nat.le_of_ble_eq_true rfl) fun y3 hf => ?_
    exact z_iret dX9_productOf_47 rfl (by cases hf; rfl)
  · refine z_iconst (0 : Int32) dX9_productOf_37 (by decide) ?_
    refine z_goto 47 dX9_productOf_38 (by decide) ?_
    exact z_iret dX9_productOf_47 rfl (by cases hf; rfl)
set_option maxRecDepth 4000 in
theorem zj_X9_productOf_25 {Γ : zG} {N d : Nat} {h0 : zH} (hd : 13 ≤ d) {v0 : Nat} {v1 : Int32} {v2 : Int32} {s0 : Nat} {h : zH} {w : Int32 × zH} (hf : f_X9_productOf_j25 N v0 v1 v2 s0 h = some w) : Z Γ m_X9_productOf d h0 (zoI w) 25 [(0, .ref v0), (1, .int v1), (2, .int v2)] [.ref s0] h := by
  unfold f_X9_productOf_j25 at hf
  refine z_iconst (1 : Int32) dX9_productOf_25 (by decide) ?_
  refine z_goto 30 dX9_productOf_26 (by decide) ?_
  exact Z.sub [0, 1, 2] rfl (zj_X9_productOf_30 hd hf)
set_option maxRecDepth 4000 in
theorem zc_X9_productOf {Γ : zG} {N d : Nat} (hd : 13 ≤ d) {a : Nat} {p1 : Int32} {p2 : Int32} {h : zH} {w : Int32 × zH} (hf : f_X9_productOf N a p1 p2 h = some w) : Zm Γ m_X9_productOf d [.ref a, .int p1, .int p2] h (zoI w) := by
  unfold f_X9_productOf at hf
  refine z_meth rfl (plainFor_of_name wpl_X9) (by simp [lg_sl, Value.category, zml, m_X9_productOf]) ?_
  refine z_aload_n 0 dX9_productOf_0 rfl rfl ?_
  refine z_iconst (0 : Int32) dX9_productOf_1 (by decide) ?_
  refine z_putB dX9_productOf_2 zc9 (by decide) wf_X9_46 (Or.inl rfl) rfl rfl hf fun h1 hf => ?_
  refine z_aload_n 0 dX9_productOf_5 rfl rfl ?_
  refine z_iload_n 1 dX9_productOf_6 rfl rfl ?_
  refine z_if_lt 25 dX9_productOf_7 (by decide) hf (fun hf => ?_) (fun hf => ?_)
  · exact Z.sub [0, 1, 2] rfl (zj_X9_productOf_25 hd hf)
  · refine z_iload_n 2 dX9_productOf_10 rfl rfl ?_
    refine z_iload_n 1 dX9_productOf_11 rfl rfl ?_
    refine z_icmp_lt 25 dX9_productOf_12 (by decide) hf (fun hf => ?_) (fun hf => ?_)
    · exact Z.sub [0, 1, 2] rfl (zj_X9_productOf_25 hd hf)
    · refine z_iload_n 2 dX9_productOf_15 rfl rfl ?_
      refine z_aload_n 0 dX9_productOf_16 rfl rfl ?_
      refine z_getA dX9_productOf_17 zc9 (by decide) wf_X9_17 hf fun x4 hf => ?_
      refine z_iconst (5 : Int32) dX9_productOf_20 (by decide) ?_
      refine z_iaload dX9_productOf_21 hf fun x5 hf => ?_
      refine z_icmp_le 29 dX9_productOf_22 (by decide) hf (fun hf => ?_) (fun hf => ?_)
      · refine z_iconst (0 : Int32) dX9_productOf_29 (by decide) ?_
        exact Z.sub [0, 1, 2] rfl (zj_X9_productOf_30 hd hf)
      · exact Z.sub [0, 1, 2] rfl (zj_X9_productOf_25 hd hf)
set_option maxRecDepth 4000 in
theorem zc_X8_elementOf {Γ : zG} {N d : Nat} (hd : 12 ≤ d) {a : Nat} {p1 : Int32} {h : zH} {w : (Int32 ⊕ Nat) × zH} (hf : f_X8_elementOf N a p1 h = some w) : Zm Γ m_X8_elementOf d [.ref a, .int p1] h (zoTI w) := by
  unfold f_X8_elementOf at hf
  refine z_meth rfl (plainFor_of_name wpl_X8) (by simp [lg_sl, Value.category, zml, m_X8_elementOf]) ?_
  refine z_aload_n 0 dX8_elementOf_0 rfl rfl ?_
  refine z_getA dX8_elementOf_1 zc8 (by decide) wf_X8_10 hf fun x1 hf => ?_
  refine z_iload_n 1 dX8_elementOf_4 rfl rfl ?_
  refine z_aload_n 0 dX8_elementOf_5 rfl rfl ?_
  refine z_getA dX8_elementOf_6 zc8 (by decide) wf_X8_28 hf fun x2 hf => ?_
  refine z_getI dX8_elementOf_9 zc0 (by decide) wf_X8_86 hf fun x3 hf => ?_
  refine z_cV_i (d' := d - 1) (As := [.int p1, .int x3]) (rest := []) dX8_elementOf_12 lk_X8_260 rfl hf (fun w1 e1 => zc_X2_fromNumber (by omega) e1) (by omega) rfl rfl (Nat.le_of_ble_eq_true rfl) fun y4 hf => ?_
  refine z_istore_n [(2, .int y4.1), (0, .ref a), (1, .int p1)] dX8_elementOf_15 rfl (by decide) rfl ?_
  refine z_iload_n 0 dX8_elementOf_16 rfl rfl ?_
  refine z_iconst (-1 : Int32) dX8_elementOf_17 (by decide) ?_
  refine z_icmp_ne 29 dX8_elementOf_18 (by decide) hf (fun hf => ?_) (fun hf => ?_)
  · exact z_throw 1 (by decide) dX8_elementOf_21 dX8_elementOf_24 dX8_elementOf_25 dX8_elementOf_28 wc_X8_62 wi_x1 wx_X8_64a wx_X8_64b (by omega) rfl (Nat.le_of_ble_eq_true rfl) (by cases hf; rfl)
  · refine z_iload_n 0 dX8_elementOf_29 rfl rfl ?_
    exact z_iret dX8_elementOf_30 rfl (by cases hf; rfl)
set_option maxRecDepth 4000 in
theorem zc_X8_multiply {Γ : zG} {N d : Nat} (hd : 13 ≤ d) {a : Nat} {p1 : Int32} {p2 : Int32} {h : zH} {w : (Int32 ⊕ Nat) × zH} (hf : f_X8_multiply N a p1 p2 h = some w) : Zm Γ m_X8_multiply d [.ref a, .int p1, .int p2] h (zoTI w) := by
  unfold f_X8_multiply at hf
  refine z_meth rfl (plainFor_of_name wpl_X8) (by simp [lg_sl, Value.category, zml, m_X8_multiply]) ?_
  refine z_aload_n 0 dX8_multiply_0 rfl rfl ?_
  refine z_aload_n 0 dX8_multiply_1 rfl rfl ?_
  refine z_getA dX8_multiply_2 zc8 (by decide) wf_X8_10 hf fun x1 hf => ?_
  refine z_aload_n 0 dX8_multiply_5 rfl rfl ?_
  refine z_iload_n 1 dX8_multiply_6 rfl rfl ?_
  refine z_cV_ti (d' := d - 1) (As := [.int p1]) (rest := [.ref x1, .ref a]) dX8_multiply_7 lk_X8_164 rfl hf (fun w1 e1 => zc_X8_elementOf (by omega) e1) (by omega) rfl rfl (Nat.le_of_ble_eq_true rfl) (fun y2 x3 hf => ?_) (fun y2 k4 hf => ?_)
  · refine z_aload_n 0 dX8_multiply_10 rfl rfl ?_
    refine z_iload_n 2 dX8_multiply_11 rfl rfl ?_
    refine z_cV_ti (d' := d - 1) (As := [.int p2]) (rest := [.int x3, .ref x1, .ref a]) dX8_multiply_12 lk_X8_164 rfl hf (fun w1 e1 => zc_X8_elementOf (by omega) e1) (by omega) rfl rfl (Nat.le_of_ble_eq_true rfl) (fun y5 x6 hf => ?_) (fun y5 k7 hf => ?_)
    · refine z_cV_i (d' := d - 1) (As := [.int x3, .int x6]) (rest := [.ref a]) dX8_multiply_15 lk_X8_167 rfl hf (fun w1 e1 => zc_X2_times (by omega) e1) (by omega) rfl rfl (Nat.le_of_ble_eq_true rfl) fun y8 hf => ?_
      refine z_cV_i (d' := d - 1) (As := [.int y8.1]) (rest := []) dX8_multiply_18 lk_X8_144 rfl hf (fun w1 e1 => zc_X8_numberOf (by omega) e1) (by omega) rfl rfl (Nat.le_of_ble_eq_true rfl) fun y9 hf => ?_
      exact z_iret dX8_multiply_21 rfl (by cases hf; rfl)
    · exact zx_out rfl (by cases hf; rfl)
  · exact zx_out rfl (by cases hf; rfl)
set_option maxRecDepth 4000 in
theorem zc_L_multiply {Γ : zG} {N d : Nat} (hd : 14 ≤ d) {p1 : Nat} {p2 : Int32} {p3 : Int32} {p4 : Nat} {h : zH} {w : Int32 × zH} (hf : f_L_multiply N p1 p2 p3 p4 h = some w) : Zm Γ m_L_multiply d [.ref p1, .int p2, .int p3, .ref p4] h (zoI w) := by
  unfold f_L_multiply at hf
  refine z_methH (by decide) (by decide +kernel) (by simp [lg_sl, Value.category, zml, m_L_multiply]) ?_
  refine z_aload_n 3 dL_multiply_0 rfl rfl ?_
  refine z_iconst (0 : Int32) dL_multiply_1 (by decide) ?_
  refine z_aload_n 0 dL_multiply_2 rfl rfl ?_
  refine z_iload_n 1 dL_multiply_3 rfl rfl ?_
  refine z_iload_n 2 dL_multiply_4 rfl rfl ?_
  refine z_cV_ti (d' := d - 1) (As := [.int p2, .int p3]) (rest := [.int (0 : Int32), .ref p4]) dL_multiply_5 lk_L_36 rfl hf (fun w1 e1 => zc_X8_multiply (by omega) e1) (by omega) rfl rfl (Nat.le_of_ble_eq_true rfl) (fun y1 x2 hf => ?_) (fun y1 k3 hf => ?_)
  · refine z_i2l dL_multiply_8 ?_
    refine z_lastore dL_multiply_9 hf fun h4 hf => ?_
    refine z_goto 17 dL_multiply_10 (by decide) ?_
    refine z_iconst (0 : Int32) dL_multiply_17 (by decide) ?_
    exact z_iret dL_multiply_18 rfl (by cases hf; rfl)
  · by_cases e0 : k3 = 1
    · rw [if_pos e0] at hf
      subst e0
      refine zx_catch (by decide) [] (0, 10, 13, 13) [] rfl (fun z hz => absurd hz List.not_mem_nil) (by decide) (by decide) wc_L_13 wct_1 fun q5 => ?_
      refine z_astore [(4, .ref q5), (0, .ref p1), (1, .int p2), (2, .int p3), (3, .ref p4)] dL_multiply_13 (by decide) rfl ?_
      refine z_iconst (1 : Int32) dL_multiply_15 (by decide) ?_
      exact z_iret dL_multiply_16 rfl (by cases hf; rfl)
    · rw [if_neg e0] at hf
      cases hf
set_option maxRecDepth 4000 in
theorem zj_X9_noElement_19 {Γ : zG} {N d : Nat} {h0 : zH} (hd : 11 ≤ d) {v2 : Int32} {s0 : Nat} {s1 : Int32} {h : zH} {w : Int32 × zH} (hf : f_X9_noElement_j19 N v2 s0 s1 h = some w) : Z Γ m_X9_noElement d h0 (zoI w) 19 [(2, .int v2)] [.int s1, .ref s0] h := by
  unfold f_X9_noElement_j19 at hf
  refine z_iload_n 0 dX9_noElement_19 rfl rfl ?_
  refine z_cV_i (d' := d - 1) (As := [.int s1, .int v2]) (rest := []) dX9_noElement_20 lk_X9_185 rfl hf (fun w1 e1 => zc_X9_fails (by omega) e1) (by omega) rfl rfl (Nat.le_of_ble_eq_true rfl) fun y4 hf => ?_
  obtain ⟨x5, hz, hf⟩ := Option.bind_eq_some_iff.mp hf
  obtain ⟨hb, rfl⟩ := zB_of hz
  exact z_zret dX9_noElement_23 rfl hb (by cases hf; rfl)
set_option maxRecDepth 4000 in
theorem zc_X9_noElement {Γ : zG} {N d : Nat} (hd : 11 ≤ d) {a : Nat} {p1 : Int32} {p2 : Int32} {h : zH} {w : Int32 × zH} (hf : f_X9_noElement N a p1 p2 h = some w) : Zm Γ m_X9_noElement d [.ref a, .int p1, .int p2] h (zoI w) := by
  unfold f_X9_noElement at hf
  refine z_meth rfl (plainFor_of_name wpl_X9) (by simp [lg_sl, Value.category, zml, m_X9_noElement]) ?_
  refine z_aload_n 0 dX9_noElement_0 rfl rfl ?_
  refine z_iload_n 1 dX9_noElement_1 rfl rfl ?_
  refine z_aload_n 0 dX9_noElement_2 rfl rfl ?_
  refine z_getA dX9_noElement_3 zc9 (by decide) wf_X9_17 hf fun x1 hf => ?_
  refine z_iconst (0 : Int32) dX9_noElement_6 (by decide) ?_
  refine z_iaload dX9_noElement_7 hf fun x2 hf => ?_
  refine z_cS_i (d' := d - 1) (As := [.int p1, .int x2]) (rest := [.ref a]) dX9_noElement_8 lk_X9_153 hf (fun w1 e1 => zc_X9_isElement (by omega) e1) (by omega) rfl rfl (Nat.le_of_ble_eq_true rfl) fun y3 hf => ?_
  refine z_if_ne 18 dX9_noElement_11 (by decide) hf (fun hf => ?_) (fun hf => ?_)
  · refine z_iconst (1 : Int32) dX9_noElement_14 (by decide) ?_
    refine z_goto 19 dX9_noElement_15 (by decide) ?_
    exact Z.sub [2] rfl (zj_X9_noElement_19 hd hf)
  · refine z_iconst (0 : Int32) dX9_noElement_18 (by decide) ?_
    exact Z.sub [2] rfl (zj_X9_noElement_19 hd hf)
set_option maxRecDepth 4000 in
theorem zc_X9_multiply {Γ : zG} {N d : Nat} (hd : 12 ≤ d) {a : Nat} {p1 : Int32} {p2 : Int32} {h : zH} {w : Int32 × zH} (hf : f_X9_multiply N a p1 p2 h = some w) : Zm Γ m_X9_multiply d [.ref a, .int p1, .int p2] h (zoI w) := by
  unfold f_X9_multiply at hf
  refine z_meth rfl (plainFor_of_name wpl_X9) (by simp [lg_sl, Value.category, zml, m_X9_multiply]) ?_
  refine z_aload_n 0 dX9_multiply_0 rfl rfl ?_
  refine z_iconst (0 : Int32) dX9_multiply_1 (by decide) ?_
  refine z_putB dX9_multiply_2 zc9 (by decide) wf_X9_46 (Or.inl rfl) rfl rfl hf fun h1 hf => ?_
  refine z_aload_n 0 dX9_multiply_5 rfl rfl ?_
  refine z_iload_n 1 dX9_multiply_6 rfl rfl ?_
  refine z_iconst (1 : Int32) dX9_multiply_7 (by decide) ?_
  refine z_cV_i (d' := d - 1) (As := [.int p1, .int (1 : Int32)]) (rest := []) dX9_multiply_8 lk_X9_266 rfl hf (fun w1 e1 => zc_X9_noElement (by omega) e1) (by omega) rfl rfl (Nat.le_of_ble_eq_true rfl) fun y2 hf => ?_
  refine z_if_ne 23 dX9_multiply_11 (by decide) hf (fun hf => ?_) (fun hf => ?_)
  · refine z_aload_n 0 dX9_multiply_14 rfl rfl ?_
    refine z_iload_n 2 dX9_multiply_15 rfl rfl ?_
    refine z_iconst (1 : Int32) dX9_multiply_16 (by decide) ?_
    refine z_cV_i (d' := d - 1) (As := [.int p2, .int (1 : Int32)]) (rest := []) dX9_multiply_17 lk_X9_266 rfl hf (fun w1 e1 => zc_X9_noElement (by omega) e1) (by omega) rfl rfl (Nat.le_of_ble_eq_true rfl) fun y3 hf => ?_
    refine z_if_eq 27 dX9_multiply_20 (by decide) hf (fun hf => ?_) (fun hf => ?_)
    · refine z_iload_n 1 dX9_multiply_27 rfl rfl ?_
      refine z_iload_n 2 dX9_multiply_28 rfl rfl ?_
      refine z_aload_n 0 dX9_multiply_29 rfl rfl ?_
      refine z_getA dX9_multiply_30 zc9 (by decide) wf_X9_17 hf fun x4 hf => ?_
      refine z_iconst (0 : Int32) dX9_multiply_33 (by decide) ?_
      refine z_iaload dX9_multiply_34 hf fun x5 hf => ?_
      refine z_cS_i (d' := d - 1) (As := [.int p1, .int p2, .int x5]) (rest := []) dX9_multiply_35 lk_X9_58 hf (fun w1 e1 => zc_X9_times (by omega) e1) (by omega) rfl rfl (Nat.le_of_ble_eq_true rfl) fun y6 hf => ?_
      exact z_iret dX9_multiply_38 rfl (by cases hf; rfl)
    · refine z_iconst (0 : Int32) dX9_multiply_23 (by decide) ?_
      refine z_goto 38 dX9_multiply_24 (by decide) ?_
      exact z_iret dX9_multiply_38 rfl (by cases hf; rfl)
  · refine z_iconst (0 : Int32) dX9_multiply_23 (by decide) ?_
    refine z_goto 38 dX9_multiply_24 (by decide) ?_
    exact z_iret dX9_multiply_38 rfl (by cases hf; rfl)
set_option maxRecDepth 4000 in
theorem zl_X2_opposite_4 {Γ : zG} {N d : Nat} {h0 : zH} (hd : 12 ≤ d) {v0 : Nat} {v1 : Int32}  {w : Int32 × zH}   : ∀ (n : Nat) (v2 : Int32) (v3 : Int32) (h : zH), f_X2_opposite_l4 N v0 v1 n v2 v3 h = some w → Z Γ m_X2_opposite d h0 (zoI w) 4 [(0, .ref v0), (1, .int v1), (2, .int v2), (3, .int v3)] [] h := by
  intro n
  induction n with
  | zero => intro v2 v3 h hf; cases hf
  | succ n ih =>
    intro v2 v3 h hf
    rw [f_X2_opposite_l4] at hf
    refine z_iload_n 3 dX2_opposite_4 rfl rfl ?_
    refine z_bipush (120 : Int32) dX2_opposite_5 (by decide) ?_
    refine z_icmp_ge 34 dX2_opposite_7 (by decide) hf (fun hf => ?_) (fun hf => ?_)
    · refine z_iconst (0 : Int32) dX2_opposite_34 (by decide) ?_
      exact z_iret dX2_opposite_35 rfl (by cases hf; rfl)
    · refine z_aload_n 0 dX2_opposite_10 rfl rfl ?_
      refine z_iload_n 2 dX2_opposite_11 rfl rfl ?_
      refine z_iload_n 1 dX2_opposite_12 rfl rfl ?_
      refine z_cV_i (d' := d - 1) (As := [.int v2, .int v1]) (rest := []) dX2_opposite_13 lk_X2_34 rfl hf (fun w1 e1 => zc_X2_times (by omega) e1) (by omega) rfl rfl (Nat.le_of_ble_eq_true rfl) fun y1 hf => ?_
      refine z_istore [(4, .int y1.1), (0, .ref v0), (1, .int v1), (2, .int v2), (3, .int v3)] dX2_opposite_16 (by decide) rfl ?_
      refine z_iload 0 dX2_opposite_18 rfl ?_
      refine z_if_ne 25 dX2_opposite_20 (by decide) hf (fun hf => ?_) (fun hf => ?_)
      · refine z_iload_n 3 dX2_opposite_23 rfl rfl ?_
        exact z_iret dX2_opposite_24 rfl (by cases hf; rfl)
      · refine z_iload 0 dX2_opposite_25 rfl ?_
        refine z_istore_n [(2, .int y1.1), (4, .int y1.1), (0, .ref v0), (1, .int v1), (3, .int v3)] dX2_opposite_27 rfl (by decide) rfl ?_
        refine z_iinc (v3 + (1 : Int32)) 4 [(3, .int (v3 + (1 : Int32))), (2, .int y1.1), (4, .int y1.1), (0, .ref v0), (1, .int v1)] dX2_opposite_28 rfl rfl (by decide) rfl ?_
        refine z_goto 4 dX2_opposite_31 (by decide) ?_
        exact Z.sub [3, 4, 1, 0] rfl (ih y1.1 (v3 + (1 : Int32)) y1.2 hf)
set_option maxRecDepth 4000 in
theorem zc_X2_opposite {Γ : zG} {N d : Nat} (hd : 12 ≤ d) {a : Nat} {p1 : Int32} {h : zH} {w : Int32 × zH} (hf : f_X2_opposite N a p1 h = some w) : Zm Γ m_X2_opposite d [.ref a, .int p1] h (zoI w) := by
  unfold f_X2_opposite at hf
  refine z_meth rfl (plainFor_of_name wpl_X2) (by simp [lg_sl, Value.category, zml, m_X2_opposite]) ?_
  refine z_iconst (0 : Int32) dX2_opposite_0 (by decide) ?_
  refine z_istore_n [(2, .int (0 : Int32)), (0, .ref a), (1, .int p1)] dX2_opposite_1 rfl (by decide) rfl ?_
  refine z_iconst (0 : Int32) dX2_opposite_2 (by decide) ?_
  refine z_istore_n [(3, .int (0 : Int32)), (2, .int (0 : Int32)), (0, .ref a), (1, .int p1)] dX2_opposite_3 rfl (by decide) rfl ?_
  refine Z.sub [2, 3, 1, 0] rfl (zl_X2_opposite_4 hd  N (0 : Int32) (0 : Int32) h hf)

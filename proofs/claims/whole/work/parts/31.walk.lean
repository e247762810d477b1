set_option maxRecDepth 4000 in
theorem zc_X8_cancel {Γ : zG} {N d : Nat} (hd : 15 ≤ d) {a : Nat} {p1 : Int32} {p2 : Int32} {h : zH} {w : (Int32 ⊕ Nat) × zH} (hf : f_X8_cancel N a p1 p2 h = some w) : Zm Γ m_X8_cancel d [.ref a, .int p1, .int p2] h (zoTI w) := by
  unfold f_X8_cancel at hf
  refine z_meth rfl (plainFor_of_name wpl_X8) (by simp [lg_sl, Value.category, zml, m_X8_cancel]) ?_
  refine z_aload_n 0 dX8_cancel_0 rfl rfl ?_
  refine z_cV_ta (d' := d - 1) (As := []) (rest := []) dX8_cancel_1 lk_X8_202 rfl hf (fun w1 e1 => zc_X8_bidderInTurn (by omega) e1) (by omega) rfl rfl (Nat.le_of_ble_eq_true rfl) (fun y1 x2 hf => ?_) (fun y1 k3 hf => ?_)
  · refine z_getA dX8_cancel_4 zc1 (by decide) wf_X8_128 hf fun x4 hf => ?_
    refine z_iload_n 1 dX8_cancel_7 rfl rfl ?_
    refine z_cV_i (d' := d - 1) (As := [.int p1]) (rest := []) dX8_cancel_8 lk_X8_134 rfl hf (fun w1 e1 => zc_X6_holds (by omega) e1) (by omega) rfl rfl (Nat.le_of_ble_eq_true rfl) fun y5 hf => ?_
    refine z_if_eq 28 dX8_cancel_11 (by decide) hf (fun hf => ?_) (fun hf => ?_)
    · exact z_throw 3 (by decide) dX8_cancel_28 dX8_cancel_31 dX8_cancel_32 dX8_cancel_35 wc_X8_138 wi_x3 wx_X8_140a wx_X8_140b (by omega) rfl (Nat.le_of_ble_eq_true rfl) (by cases hf; rfl)
    · refine z_aload_n 0 dX8_cancel_14 rfl rfl ?_
      refine z_getA dX8_cancel_15 zc8 (by decide) wf_X8_28 hf fun x6 hf => ?_
      refine z_getA dX8_cancel_18 zc0 (by decide) wf_X8_107 hf fun x7 hf => ?_
      refine z_iload_n 2 dX8_cancel_21 rfl rfl ?_
      refine z_cV_i (d' := d - 1) (As := [.int p2]) (rest := []) dX8_cancel_22 lk_X8_134 rfl hf (fun w1 e1 => zc_X6_holds (by omega) e1) (by omega) rfl rfl (Nat.le_of_ble_eq_true rfl) fun y8 hf => ?_
      refine z_if_ne 36 dX8_cancel_25 (by decide) hf (fun hf => ?_) (fun hf => ?_)
      · exact z_throw 3 (by decide) dX8_cancel_28 dX8_cancel_31 dX8_cancel_32 dX8_cancel_35 wc_X8_138 wi_x3 wx_X8_140a wx_X8_140b (by omega) rfl (Nat.le_of_ble_eq_true rfl) (by cases hf; rfl)
      · refine z_aload_n 0 dX8_cancel_36 rfl rfl ?_
        refine z_getA dX8_cancel_37 zc8 (by decide) wf_X8_35 hf fun x9 hf => ?_
        refine z_aload_n 0 dX8_cancel_40 rfl rfl ?_
        refine z_getA dX8_cancel_41 zc8 (by decide) wf_X8_28 hf fun x10 hf => ?_
        refine z_cV_v (d' := d - 1) (As := [.ref x10]) (rest := []) dX8_cancel_44 lk_X8_72 rfl hf (fun w1 e1 => zc_X4_remember (by omega) e1) (by omega) rfl rfl (Nat.le_of_ble_eq_true rfl) fun y11 hf => ?_
        refine z_aload_n 0 dX8_cancel_47 rfl rfl ?_
        refine z_getA dX8_cancel_48 zc8 (by decide) wf_X8_28 hf fun x12 hf => ?_
        refine z_iload_n 1 dX8_cancel_51 rfl rfl ?_
        refine z_iload_n 2 dX8_cancel_52 rfl rfl ?_
        refine z_cV_i (d' := d - 1) (As := [.int p1, .int p2]) (rest := []) dX8_cancel_53 lk_X8_209 rfl hf (fun w1 e1 => zc_X0_cancelBid (by omega) e1) (by omega) rfl rfl (Nat.le_of_ble_eq_true rfl) fun y13 hf => ?_
        exact z_iret dX8_cancel_56 rfl (by cases hf; rfl)
  · exact zx_out rfl (by cases hf; rfl)
set_option maxRecDepth 4000 in
theorem zc_L_cancel {Γ : zG} {N d : Nat} (hd : 16 ≤ d) {p1 : Nat} {p2 : Int32} {p3 : Int32} {p4 : Nat} {h : zH} {w : Int32 × zH} (hf : f_L_cancel N p1 p2 p3 p4 h = some w) : Zm Γ m_L_cancel d [.ref p1, .int p2, .int p3, .ref p4] h (zoI w) := by
  unfold f_L_cancel at hf
  refine z_methH (by decide) (by decide +kernel) (by simp [lg_sl, Value.category, zml, m_L_cancel]) ?_
  refine z_aload_n 3 dL_cancel_0 rfl rfl ?_
  refine z_iconst (0 : Int32) dL_cancel_1 (by decide) ?_
  refine z_aload_n 0 dL_cancel_2 rfl rfl ?_
  refine z_iload_n 1 dL_cancel_3 rfl rfl ?_
  refine z_iload_n 2 dL_cancel_4 rfl rfl ?_
  refine z_cV_ti (d' := d - 1) (As := [.int p2, .int p3]) (rest := [.int (0 : Int32), .ref p4]) dL_cancel_5 lk_L_69 rfl hf (fun w1 e1 => zc_X8_cancel (by omega) e1) (by omega) rfl rfl (Nat.le_of_ble_eq_true rfl) (fun y1 x2 hf => ?_) (fun y1 k3 hf => ?_)
  · refine z_i2l dL_cancel_8 ?_
    refine z_lastore dL_cancel_9 hf fun h4 hf => ?_
    refine z_goto 21 dL_cancel_10 (by decide) ?_
    refine z_iconst (0 : Int32) dL_cancel_21 (by decide) ?_
    exact z_iret dL_cancel_22 rfl (by cases hf; rfl)
  · by_cases e0 : k3 = 0
    · rw [if_pos e0] at hf
      subst e0
      refine zx_catch (by decide) [] (0, 10, 13, 67) [(0, 10, 17, 28)] rfl (fun z hz => absurd hz List.not_mem_nil) (by decide) (by decide) wc_L_67 wct_0 fun q5 => ?_
      refine z_astore [(4, .ref q5), (0, .ref p1), (1, .int p2), (2, .int p3), (3, .ref p4)] dL_cancel_13 (by decide) rfl ?_
      refine z_iconst (1 : Int32) dL_cancel_15 (by decide) ?_
      exact z_iret dL_cancel_16 rfl (by cases hf; rfl)
    · rw [if_neg e0] at hf
      by_cases e1 : k3 = 3
      · rw [if_pos e1] at hf
        subst e1
        refine zx_catch (by decide) [(0, 10, 13, 67)] (0, 10, 17, 28) [] rfl (List.forall_mem_cons.mpr ⟨⟨by decide, 0, by decide, by decide, wc_L_67⟩, fun z hz => absurd hz List.not_mem_nil⟩) (by decide) (by decide) wc_L_28 wct_3 fun q6 => ?_
        refine z_astore [(4, .ref q6), (0, .ref p1), (1, .int p2), (2, .int p3), (3, .ref p4)] dL_cancel_17 (by decide) rfl ?_
        refine z_iconst (2 : Int32) dL_cancel_19 (by decide) ?_
        exact z_iret dL_cancel_20 rfl (by cases hf; rfl)
      · rw [if_neg e1] at hf
        cases hf
set_option maxRecDepth 4000 in
theorem zl_X9_cancel_181 {Γ : zG} {N d : Nat} {h0 : zH} (hd : 15 ≤ d) {v0 : Nat} {v1 : Int32} {v3 : Int32} {k1 : zH → Option (Int32 × zH)} {w : Int32 × zH}  (hk1 : ∀ (h : zH), k1 h = some w → Z Γ m_X9_cancel d h0 (zoI w) 219 [(0, .ref v0), (1, .int v1), (3, .int v3)] [] h) : ∀ (n : Nat) (v6 : Int32) (h : zH), f_X9_cancel_l181 N v0 v1 v3 k1 n v6 h = some w → Z Γ m_X9_cancel d h0 (zoI w) 181 [(0, .ref v0), (1, .int v1), (3, .int v3), (6, .int v6)] [] h := by
  intro n
  induction n with
  | zero => intro v6 h hf; cases hf
  | succ n ih =>
    intro v6 h hf
    rw [f_X9_cancel_l181] at hf
    refine z_iload 3 dX9_cancel_181 rfl ?_
    refine z_bipush (118 : Int32) dX9_cancel_183 (by decide) ?_
    refine z_iconst (3 : Int32) dX9_cancel_185 (by decide) ?_
    refine z_aload_n 0 dX9_cancel_186 rfl rfl ?_
    refine z_getA dX9_cancel_187 zc9 (by decide) wf_X9_17 hf fun x31 hf => ?_
    refine z_iconst (5 : Int32) dX9_cancel_190 (by decide) ?_
    refine z_iaload dX9_cancel_191 hf fun x32 hf => ?_
    refine z_imul dX9_cancel_192 ?_
    refine z_iadd dX9_cancel_193 ?_
    refine z_icmp_ge 219 dX9_cancel_194 (by decide) hf (fun hf => ?_) (fun hf => ?_)
    · exact Z.sub [0, 1, 2] rfl (hk1 h hf)
    · refine z_aload_n 0 dX9_cancel_197 rfl rfl ?_
      refine z_getA dX9_cancel_198 zc9 (by decide) wf_X9_17 hf fun x33 hf => ?_
      refine z_iload 3 dX9_cancel_201 rfl ?_
      refine z_aload_n 0 dX9_cancel_203 rfl rfl ?_
      refine z_getA dX9_cancel_204 zc9 (by decide) wf_X9_17 hf fun x34 hf => ?_
      refine z_iload 3 dX9_cancel_207 rfl ?_
      refine z_iconst (3 : Int32) dX9_cancel_209 (by decide) ?_
      refine z_iadd dX9_cancel_210 ?_
      refine z_iaload dX9_cancel_211 hf fun x35 hf => ?_
      refine z_iastore dX9_cancel_212 hf fun h36 hf => ?_
      refine z_iinc (v6 + (1 : Int32)) 3 [(6, .int (v6 + (1 : Int32))), (0, .ref v0), (1, .int v1), (3, .int v3)] dX9_cancel_213 rfl rfl (by decide) rfl ?_
      refine z_goto 181 dX9_cancel_216 (by decide) ?_
      exact Z.sub [1, 2, 3, 0] rfl (ih (v6 + (1 : Int32)) h36 hf)
set_option maxRecDepth 4000 in
theorem zj_X9_cancel_47 {Γ : zG} {N d : Nat} {h0 : zH} (hd : 15 ≤ d) {v0 : Nat} {v1 : Int32} {v2 : Int32} {s0 : Nat} {s1 : Int32} {h : zH} {w : Int32 × zH} (hf : f_X9_cancel_j47 N v0 v1 v2 s0 s1 h = some w) : Z Γ m_X9_cancel d h0 (zoI w) 47 [(0, .ref v0), (1, .int v1), (2, .int v2)] [.int s1, .ref s0] h := by
  unfold f_X9_cancel_j47 at hf
  refine z_iconst (2 : Int32) dX9_cancel_47 (by decide) ?_
  refine z_cV_i (d' := d - 1) (As := [.int s1, .int (2 : Int32)]) (rest := []) dX9_cancel_48 lk_X9_185 rfl hf (fun w1 e1 => zc_X9_fails (by omega) e1) (by omega) rfl rfl (Nat.le_of_ble_eq_true rfl) fun y8 hf => ?_
  refine z_if_eq 56 dX9_cancel_51 (by decide) hf (fun hf => ?_) (fun hf => ?_)
  · refine z_aload_n 0 dX9_cancel_56 rfl rfl ?_
    refine z_cV_v (d' := d - 1) (As := []) (rest := []) dX9_cancel_57 lk_X9_194 rfl hf (fun w1 e1 => zc_X9_remember (by omega) e1) (by omega) rfl rfl (Nat.le_of_ble_eq_true rfl) fun y9 hf => ?_
    refine z_aload_n 0 dX9_cancel_60 rfl rfl ?_
    refine z_getA dX9_cancel_61 zc9 (by decide) wf_X9_17 hf fun x10 hf => ?_
    refine z_iconst (4 : Int32) dX9_cancel_64 (by decide) ?_
    refine z_iaload dX9_cancel_65 hf fun x11 hf => ?_
    refine z_istore_n [(3, .int x11), (0, .ref v0), (1, .int v1), (2, .int v2)] dX9_cancel_66 rfl (by decide) rfl ?_
    refine z_aload_n 1 dX9_cancel_67 rfl rfl ?_
    refine z_iload_n 0 dX9_cancel_68 rfl rfl ?_
    refine z_iload_n 2 dX9_cancel_69 rfl rfl ?_
    refine z_cV_i (d' := d - 1) (As := [.int x11, .int v1]) (rest := []) dX9_cancel_70 lk_X9_257 rfl hf (fun w1 e1 => zc_X9_priceOf (by omega) e1) (by omega) rfl rfl (Nat.le_of_ble_eq_true rfl) fun y12 hf => ?_
    refine z_istore [(4, .int y12.1), (3, .int x11), (0, .ref v0), (1, .int v1), (2, .int v2)] dX9_cancel_73 (by decide) rfl ?_
    refine z_aload_n 2 dX9_cancel_75 rfl rfl ?_
    refine z_iload_n 4 dX9_cancel_76 rfl rfl ?_
    refine z_iconst (2 : Int32) dX9_cancel_77 (by decide) ?_
    refine z_cV_i (d' := d - 1) (As := [.int v2, .int (2 : Int32)]) (rest := []) dX9_cancel_78 lk_X9_204 rfl hf (fun w1 e1 => zc_X9_ofBid (by omega) e1) (by omega) rfl rfl (Nat.le_of_ble_eq_true rfl) fun y13 hf => ?_
    refine z_istore [(5, .int y13.1), (4, .int y12.1), (3, .int x11), (0, .ref v0), (1, .int v1), (2, .int v2)] dX9_cancel_81 (by decide) rfl ?_
    refine z_aload_n 3 dX9_cancel_83 rfl rfl ?_
    refine z_iload_n 2 dX9_cancel_84 rfl rfl ?_
    refine z_iload_n 4 dX9_cancel_85 rfl rfl ?_
    refine z_cV_i (d' := d - 1) (As := [.int x11, .int v1]) (rest := []) dX9_cancel_86 lk_X9_221 rfl hf (fun w1 e1 => zc_X9_elementOf (by omega) e1) (by omega) rfl rfl (Nat.le_of_ble_eq_true rfl) fun y14 hf => ?_
    refine z_aload_n 3 dX9_cancel_89 rfl rfl ?_
    refine z_iload_n 5 dX9_cancel_90 rfl rfl ?_
    refine z_iconst (1 : Int32) dX9_cancel_91 (by decide) ?_
    refine z_cV_i (d' := d - 1) (As := [.int v2, .int (1 : Int32)]) (rest := [.int y14.1]) dX9_cancel_92 lk_X9_204 rfl hf (fun w1 e1 => zc_X9_ofBid (by omega) e1) (by omega) rfl rfl (Nat.le_of_ble_eq_true rfl) fun y15 hf => ?_
    refine z_aload_n 3 dX9_cancel_95 rfl rfl ?_
    refine z_getA dX9_cancel_96 zc9 (by decide) wf_X9_17 hf fun x16 hf => ?_
    refine z_iconst (0 : Int32) dX9_cancel_99 (by decide) ?_
    refine z_iaload dX9_cancel_100 hf fun x17 hf => ?_
    refine z_cS_i (d' := d - 1) (As := [.int y15.1, .int x17]) (rest := [.int y14.1]) dX9_cancel_101 lk_X9_269 hf (fun w1 e1 => zc_X9_inverseOf (by omega) e1) (by omega) rfl rfl (Nat.le_of_ble_eq_true rfl) fun y18 hf => ?_
    refine z_icmp_ne 130 dX9_cancel_104 (by decide) hf (fun hf => ?_) (fun hf => ?_)
    · refine z_iload 1 dX9_cancel_107 rfl ?_
      refine z_iload 0 dX9_cancel_109 rfl ?_
      refine z_icmp_lt 130 dX9_cancel_111 (by decide) hf (fun hf => ?_) (fun hf => ?_)
      · refine z_iconst (-1 : Int32) dX9_cancel_130 (by decide) ?_
        exact z_iret dX9_cancel_131 rfl (by cases hf; rfl)
      · refine z_aload_n 3 dX9_cancel_114 rfl rfl ?_
        refine z_getA dX9_cancel_115 zc9 (by decide) wf_X9_17 hf fun x19 hf => ?_
        refine z_iload_n 2 dX9_cancel_118 rfl rfl ?_
        refine z_cS_i (d' := d - 1) (As := [.int x11]) (rest := [.ref x19]) dX9_cancel_119 lk_X9_201 hf (fun w1 e1 => zc_X9_at (by omega) e1) (by omega) rfl rfl (Nat.le_of_ble_eq_true rfl) fun y20 hf => ?_
        refine z_iconst (0 : Int32) dX9_cancel_122 (by decide) ?_
        refine z_iadd dX9_cancel_123 ?_
        refine z_iaload dX9_cancel_124 hf fun x21 hf => ?_
        refine z_iload 1 dX9_cancel_125 rfl ?_
        refine z_icmp_ge 132 dX9_cancel_127 (by decide) hf (fun hf => ?_) (fun hf => ?_)
        · refine z_aload_n 3 dX9_cancel_132 rfl rfl ?_
          refine z_iload_n 2 dX9_cancel_133 rfl rfl ?_
          refine z_iload 1 dX9_cancel_134 rfl ?_
          refine z_cV_v (d' := d - 1) (As := [.int x11, .int y12.1]) (rest := []) dX9_cancel_136 lk_X9_301 rfl hf (fun w1 e1 => zc_X9_payPot (by omega) e1) (by omega) rfl rfl (Nat.le_of_ble_eq_true rfl) fun y22 hf => ?_
          refine z_aload_n 3 dX9_cancel_139 rfl rfl ?_
          refine z_getA dX9_cancel_140 zc9 (by decide) wf_X9_17 hf fun x23 hf => ?_
          refine z_bipush (6 : Int32) dX9_cancel_143 (by decide) ?_
          refine z_dup2 dX9_cancel_145 rfl rfl ?_
          refine z_iaload dX9_cancel_146 hf fun x24 hf => ?_
          refine z_iload 0 dX9_cancel_147 rfl ?_
          refine z_isub dX9_cancel_149 ?_
          refine z_iastore dX9_cancel_150 hf fun h25 hf => ?_
          refine z_aload_n 3 dX9_cancel_151 rfl rfl ?_
          refine z_aload_n 3 dX9_cancel_152 rfl rfl ?_
          refine z_iload_n 5 dX9_cancel_153 rfl rfl ?_
          refine z_iconst (0 : Int32) dX9_cancel_154 (by decide) ?_
          refine z_cV_i (d' := d - 1) (As := [.int v2, .int (0 : Int32)]) (rest := [.ref v0]) dX9_cancel_155 lk_X9_204 rfl hf (fun w1 e1 => zc_X9_ofBid (by omega) e1) (by omega) rfl rfl (Nat.le_of_ble_eq_true rfl) fun y26 hf => ?_
          refine z_iload 0 dX9_cancel_158 rfl ?_
          refine z_cV_v (d' := d - 1) (As := [.int y26.1, .int y13.1]) (rest := []) dX9_cancel_160 lk_X9_289 rfl hf (fun w1 e1 => zc_X9_payInto (by omega) e1) (by omega) rfl rfl (Nat.le_of_ble_eq_true rfl) fun y27 hf => ?_
          refine z_aload_n 3 dX9_cancel_163 rfl rfl ?_
          refine z_getA dX9_cancel_164 zc9 (by decide) wf_X9_17 hf fun x28 hf => ?_
          refine z_iconst (5 : Int32) dX9_cancel_167 (by decide) ?_
          refine z_dup2 dX9_cancel_168 rfl rfl ?_
          refine z_iaload dX9_cancel_169 hf fun x29 hf => ?_
          refine z_iconst (1 : Int32) dX9_cancel_170 (by decide) ?_
          refine z_isub dX9_cancel_171 ?_
          refine z_iastore dX9_cancel_172 hf fun h30 hf => ?_
          refine z_bipush (118 : Int32) dX9_cancel_173 (by decide) ?_
          refine z_iconst (3 : Int32) dX9_cancel_175 (by decide) ?_
          refine z_iload_n 5 dX9_cancel_176 rfl rfl ?_
          refine z_imul dX9_cancel_177 ?_
          refine z_iadd dX9_cancel_178 ?_
          refine z_istore [(6, .int ((118 : Int32) + ((3 : Int32) * v2))), (5, .int y13.1), (4, .int y12.1), (3, .int x11), (0, .ref v0), (1, .int v1), (2, .int v2)] dX9_cancel_179 (by decide) rfl ?_
          refine Z.sub [4, 5, 3, 0] rfl (zl_X9_cancel_181 hd (fun h37 hf => ?_) N ((118 : Int32) + ((3 : Int32) * v2)) h30 hf)
          · refine z_aload_n 0 dX9_cancel_219 rfl rfl ?_
            refine z_iload_n 2 dX9_cancel_220 rfl rfl ?_
            refine z_iload_n 1 dX9_cancel_221 rfl rfl ?_
            refine z_cV_v (d' := d - 1) (As := [.int x11, .int v1]) (rest := []) dX9_cancel_222 lk_X9_304 rfl hf (fun w1 e1 => zc_X9_dropCard (by omega) e1) (by omega) rfl rfl (Nat.le_of_ble_eq_true rfl) fun y38 hf => ?_
            refine z_aload_n 0 dX9_cancel_225 rfl rfl ?_
            refine z_iload_n 2 dX9_cancel_226 rfl rfl ?_
            refine z_cV_i (d' := d - 1) (As := [.int x11]) (rest := []) dX9_cancel_227 lk_X9_307 rfl hf (fun w1 e1 => zc_X9_finish (by omega) e1) (by omega) rfl rfl (Nat.le_of_ble_eq_true rfl) fun y39 hf => ?_
            exact z_iret dX9_cancel_230 rfl (by cases hf; rfl)
        · refine z_iconst (-1 : Int32) dX9_cancel_130 (by decide) ?_
          exact z_iret dX9_cancel_131 rfl (by cases hf; rfl)
    · refine z_iconst (-1 : Int32) dX9_cancel_130 (by decide) ?_
      exact z_iret dX9_cancel_131 rfl (by cases hf; rfl)
  · refine z_iconst (0 : Int32) dX9_cancel_54 (by decide) ?_
    exact z_iret dX9_cancel_55 rfl (by cases hf; rfl)
set_option maxRecDepth 4000 in
theorem zc_X9_cancel {Γ : zG} {N d : Nat} (hd : 15 ≤ d) {a : Nat} {p1 : Int32} {p2 : Int32} {h : zH} {w : Int32 × zH} (hf : f_X9_cancel N a p1 p2 h = some w) : Zm Γ m_X9_cancel d [.ref a, .int p1, .int p2] h (zoI w) := by
  unfold f_X9_cancel at hf
  refine z_meth rfl (plainFor_of_name wpl_X9) (by simp [lg_sl, Value.category, zml, m_X9_cancel]) ?_
  refine z_aload_n 0 dX9_cancel_0 rfl rfl ?_
  refine z_iconst (0 : Int32) dX9_cancel_1 (by decide) ?_
  refine z_putB dX9_cancel_2 zc9 (by decide) wf_X9_46 (Or.inl rfl) rfl rfl hf fun h1 hf => ?_
  refine z_aload_n 0 dX9_cancel_5 rfl rfl ?_
  refine z_aload_n 0 dX9_cancel_6 rfl rfl ?_
  refine z_cV_i (d' := d - 1) (As := []) (rest := [.ref a]) dX9_cancel_7 lk_X9_248 rfl hf (fun w1 e1 => zc_X9_isOver (by omega) e1) (by omega) rfl rfl (Nat.le_of_ble_eq_true rfl) fun y2 hf => ?_
  refine z_iconst (1 : Int32) dX9_cancel_10 (by decide) ?_
  refine z_cV_i (d' := d - 1) (As := [.int y2.1, .int (1 : Int32)]) (rest := []) dX9_cancel_11 lk_X9_185 rfl hf (fun w1 e1 => zc_X9_fails (by omega) e1) (by omega) rfl rfl (Nat.le_of_ble_eq_true rfl) fun y3 hf => ?_
  refine z_if_ne 54 dX9_cancel_14 (by decide) hf (fun hf => ?_) (fun hf => ?_)
  · refine z_aload_n 0 dX9_cancel_17 rfl rfl ?_
    refine z_iload_n 1 dX9_cancel_18 rfl rfl ?_
    refine z_cV_i (d' := d - 1) (As := [.int p1]) (rest := []) dX9_cancel_19 lk_X9_298 rfl hf (fun w1 e1 => zc_X9_noCard (by omega) e1) (by omega) rfl rfl (Nat.le_of_ble_eq_true rfl) fun y4 hf => ?_
    refine z_if_ne 54 dX9_cancel_22 (by decide) hf (fun hf => ?_) (fun hf => ?_)
    · refine z_aload_n 0 dX9_cancel_25 rfl rfl ?_
      refine z_iload_n 2 dX9_cancel_26 rfl rfl ?_
      refine z_iconst (0 : Int32) dX9_cancel_27 (by decide) ?_
      refine z_aload_n 0 dX9_cancel_28 rfl rfl ?_
      refine z_getA dX9_cancel_29 zc9 (by decide) wf_X9_17 hf fun x5 hf => ?_
      refine z_iconst (5 : Int32) dX9_cancel_32 (by decide) ?_
      refine z_iaload dX9_cancel_33 hf fun x6 hf => ?_
      refine z_iconst (1 : Int32) dX9_cancel_34 (by decide) ?_
      refine z_isub dX9_cancel_35 ?_
      refine z_cS_i (d' := d - 1) (As := [.int p2, .int (0 : Int32), .int (x6 - (1 : Int32))]) (rest := [.ref a]) dX9_cancel_36 lk_X9_79 hf (fun w1 e1 => zc_X9_in (by omega) e1) (by omega) rfl rfl (Nat.le_of_ble_eq_true rfl) fun y7 hf => ?_
      refine z_if_ne 46 dX9_cancel_39 (by decide) hf (fun hf => ?_) (fun hf => ?_)
      · refine z_iconst (1 : Int32) dX9_cancel_42 (by decide) ?_
        refine z_goto 47 dX9_cancel_43 (by decide) ?_
        exact Z.sub [0, 1, 2] rfl (zj_X9_cancel_47 hd hf)
      · refine z_iconst (0 : Int32) dX9_cancel_46 (by decide) ?_
        exact Z.sub [0, 1, 2] rfl (zj_X9_cancel_47 hd hf)
    · refine z_iconst (0 : Int32) dX9_cancel_54 (by decide) ?_
      exact z_iret dX9_cancel_55 rfl (by cases hf; rfl)
  · refine z_iconst (0 : Int32) dX9_cancel_54 (by decide) ?_
    exact z_iret dX9_cancel_55 rfl (by cases hf; rfl)
set_option maxRecDepth 4000 in
theorem zj_X0_passTurn_48 {Γ : zG} {N d : Nat} {h0 : zH} (hd : 13 ≤ d) {v0 : Nat} {v1 : Int32}  {h : zH} {w : Int32 × zH} (hf : f_X0_passTurn_j48 N v0 v1  h = some w) : Z Γ m_X0_passTurn d h0 (zoI w) 48 [(0, .ref v0), (1, .int v1)] [] h := by
  unfold f_X0_passTurn_j48 at hf
  refine z_aload_n 0 dX0_passTurn_48 rfl rfl ?_
  refine z_cV_v (d' := d - 1) (As := []) (rest := []) dX0_passTurn_49 lk_X0_161 rfl hf (fun w1 e1 => zc_X0_turnToNext (by omega) e1) (by omega) rfl rfl (Nat.le_of_ble_eq_true rfl) fun y5 hf => ?_
  refine z_iload_n 1 dX0_passTurn_52 rfl rfl ?_
  refine z_if_eq 60 dX0_passTurn_53 (by decide) hf (fun hf => ?_) (fun hf => ?_)
  · refine z_iconst (0 : Int32) dX0_passTurn_60 (by decide) ?_
    exact z_iret dX0_passTurn_61 rfl (by cases hf; rfl)
  · refine z_iconst (1 : Int32) dX0_passTurn_56 (by decide) ?_
    refine z_goto 61 dX0_passTurn_57 (by decide) ?_
    exact z_iret dX0_passTurn_61 rfl (by cases hf; rfl)
set_option maxRecDepth 4000 in
theorem zj_X0_passTurn_26 {Γ : zG} {N d : Nat} {h0 : zH} (hd : 13 ≤ d) {v0 : Nat} {s0 : Int32} {h : zH} {w : Int32 × zH} (hf : f_X0_passTurn_j26 N v0 s0 h = some w) : Z Γ m_X0_passTurn d h0 (zoI w) 26 [(0, .ref v0)] [.int s0] h := by
  unfold f_X0_passTurn_j26 at hf
  refine z_istore_n [(1, .int s0), (0, .ref v0)] dX0_passTurn_26 rfl (by decide) rfl ?_
  refine z_iload_n 0 dX0_passTurn_27 rfl rfl ?_
  refine z_if_eq 48 dX0_passTurn_28 (by decide) hf (fun hf => ?_) (fun hf => ?_)
  · exact Z.sub [1, 0] rfl (zj_X0_passTurn_48 hd hf)
  · refine z_aload_n 1 dX0_passTurn_31 rfl rfl ?_
    refine z_dup dX0_passTurn_32 rfl ?_
    refine z_getI dX0_passTurn_33 zc0 (by decide) wf_X0_68 hf fun x6 hf => ?_
    refine z_aload_n 1 dX0_passTurn_36 rfl rfl ?_
    refine z_getI dX0_passTurn_37 zc0 (by decide) wf_X0_81 hf fun x7 hf => ?_
    refine z_iadd dX0_passTurn_40 ?_
    refine z_putB dX0_passTurn_41 zc0 (by decide) wf_X0_68 (Or.inl rfl) rfl rfl hf fun h8 hf => ?_
    refine z_aload_n 1 dX0_passTurn_44 rfl rfl ?_
    refine z_cV_v (d' := d - 1) (As := []) (rest := []) dX0_passTurn_45 lk_X0_158 rfl hf (fun w1 e1 => zc_X0_openNextLot (by omega) e1) (by omega) rfl rfl (Nat.le_of_ble_eq_true rfl) fun y9 hf => ?_
    exact Z.sub [1, 0] rfl (zj_X0_passTurn_48 hd hf)
set_option maxRecDepth 4000 in
theorem zc_X0_passTurn {Γ : zG} {N d : Nat} (hd : 13 ≤ d) {a : Nat} {h : zH} {w : Int32 × zH} (hf : f_X0_passTurn N a h = some w) : Zm Γ m_X0_passTurn d [.ref a] h (zoI w) := by
  unfold f_X0_passTurn at hf
  refine z_meth rfl (plainFor_of_name wpl_X0) (by simp [lg_sl, Value.category, zml, m_X0_passTurn]) ?_
  refine z_aload_n 0 dX0_passTurn_0 rfl rfl ?_
  refine z_dup dX0_passTurn_1 rfl ?_
  refine z_getI dX0_passTurn_2 zc0 (by decide) wf_X0_84 hf fun x1 hf => ?_
  refine z_iconst (1 : Int32) dX0_passTurn_5 (by decide) ?_
  refine z_iadd dX0_passTurn_6 ?_
  refine z_putB dX0_passTurn_7 zc0 (by decide) wf_X0_84 (Or.inl rfl) rfl rfl hf fun h2 hf => ?_
  refine z_aload_n 0 dX0_passTurn_10 rfl rfl ?_
  refine z_getI dX0_passTurn_11 zc0 (by decide) wf_X0_84 hf fun x3 hf => ?_
  refine z_aload_n 0 dX0_passTurn_14 rfl rfl ?_
  refine z_getI dX0_passTurn_15 zc0 (by decide) wf_X0_56 hf fun x4 hf => ?_
  refine z_icmp_ne 25 dX0_passTurn_18 (by decide) hf (fun hf => ?_) (fun hf => ?_)
  · refine z_iconst (1 : Int32) dX0_passTurn_21 (by decide) ?_
    refine z_goto 26 dX0_passTurn_22 (by decide) ?_
    exact Z.sub [0] rfl (zj_X0_passTurn_26 hd hf)
  · refine z_iconst (0 : Int32) dX0_passTurn_25 (by decide) ?_
    exact Z.sub [0] rfl (zj_X0_passTurn_26 hd hf)
set_option maxRecDepth 4000 in
theorem zc_X8_pass {Γ : zG} {N d : Nat} (hd : 15 ≤ d) {a : Nat} {h : zH} {w : (Int32 ⊕ Nat) × zH} (hf : f_X8_pass N a h = some w) : Zm Γ m_X8_pass d [.ref a] h (zoTI w) := by
  unfold f_X8_pass at hf
  refine z_meth rfl (plainFor_of_name wpl_X8) (by simp [lg_sl, Value.category, zml, m_X8_pass]) ?_
  refine z_aload_n 0 dX8_pass_0 rfl rfl ?_
  refine z_getA dX8_pass_1 zc8 (by decide) wf_X8_28 hf fun x1 hf => ?_
  refine z_cV_i (d' := d - 1) (As := []) (rest := []) dX8_pass_4 lk_X8_98 rfl hf (fun w1 e1 => zc_X0_isOver (by omega) e1) (by omega) rfl rfl (Nat.le_of_ble_eq_true rfl) fun y2 hf => ?_
  refine z_if_eq 18 dX8_pass_7 (by decide) hf (fun hf => ?_) (fun hf => ?_)
  · refine z_aload_n 0 dX8_pass_18 rfl rfl ?_
    refine z_getA dX8_pass_19 zc8 (by decide) wf_X8_35 hf fun x3 hf => ?_
    refine z_aload_n 0 dX8_pass_22 rfl rfl ?_
    refine z_getA dX8_pass_23 zc8 (by decide) wf_X8_28 hf fun x4 hf => ?_
    refine z_cV_v (d' := d - 1) (As := [.ref x4]) (rest := []) dX8_pass_26 lk_X8_72 rfl hf (fun w1 e1 => zc_X4_remember (by omega) e1) (by omega) rfl rfl (Nat.le_of_ble_eq_true rfl) fun y5 hf => ?_
    refine z_aload_n 0 dX8_pass_29 rfl rfl ?_
    refine z_getA dX8_pass_30 zc8 (by decide) wf_X8_28 hf fun x6 hf => ?_
    refine z_cV_i (d' := d - 1) (As := []) (rest := []) dX8_pass_33 lk_X8_215 rfl hf (fun w1 e1 => zc_X0_passTurn (by omega) e1) (by omega) rfl rfl (Nat.le_of_ble_eq_true rfl) fun y7 hf => ?_
    exact z_iret dX8_pass_36 rfl (by cases hf; rfl)
  · exact z_throw 0 (by decide) dX8_pass_10 dX8_pass_13 dX8_pass_14 dX8_pass_17 wc_X8_212 wi_x0 wx_X8_214a wx_X8_214b (by omega) rfl (Nat.le_of_ble_eq_true rfl) (by cases hf; rfl)
set_option maxRecDepth 4000 in
theorem zc_L_pass {Γ : zG} {N d : Nat} (hd : 16 ≤ d) {p1 : Nat} {p2 : Nat} {h : zH} {w : Int32 × zH} (hf : f_L_pass N p1 p2 h = some w) : Zm Γ m_L_pass d [.ref p1, .ref p2] h (zoI w) := by
  unfold f_L_pass at hf
  refine z_methH (by decide) (by decide +kernel) (by simp [lg_sl, Value.category, zml, m_L_pass]) ?_
  refine z_aload_n 1 dL_pass_0 rfl rfl ?_
  refine z_iconst (0 : Int32) dL_pass_1 (by decide) ?_
  refine z_aload_n 0 dL_pass_2 rfl rfl ?_
  refine z_cV_ti (d' := d - 1) (As := []) (rest := [.int (0 : Int32), .ref p2]) dL_pass_3 lk_L_72 rfl hf (fun w1 e1 => zc_X8_pass (by omega) e1) (by omega) rfl rfl (Nat.le_of_ble_eq_true rfl) (fun y1 x2 hf => ?_) (fun y1 k3 hf => ?_)
  · refine z_i2l dL_pass_6 ?_
    refine z_lastore dL_pass_7 hf fun h4 hf => ?_
    refine z_goto 14 dL_pass_8 (by decide) ?_
    refine z_iconst (0 : Int32) dL_pass_14 (by decide) ?_
    exact z_iret dL_pass_15 rfl (by cases hf; rfl)
  · by_cases e0 : k3 = 0
    · rw [if_pos e0] at hf
      subst e0
      refine zx_catch (by decide) [] (0, 8, 11, 67) [] rfl (fun z hz => absurd hz List.not_mem_nil) (by decide) (by decide) wc_L_67 wct_0 fun q5 => ?_
      refine z_astore_n [(2, .ref q5), (0, .ref p1), (1, .ref p2)] dL_pass_11 rfl (by decide) rfl ?_
      refine z_iconst (1 : Int32) dL_pass_12 (by decide) ?_
      exact z_iret dL_pass_13 rfl (by cases hf; rfl)
    · rw [if_neg e0] at hf
      cases hf
set_option maxRecDepth 4000 in
theorem zj_X9_pass_81 {Γ : zG} {N d : Nat} {h0 : zH} (hd : 12 ≤ d) {v0 : Nat} {v1 : Int32}  {h : zH} {w : Int32 × zH} (hf : f_X9_pass_j81 N v0 v1  h = some w) : Z Γ m_X9_pass d h0 (zoI w) 81 [(0, .ref v0), (1, .int v1)] [] h := by
  unfold f_X9_pass_j81 at hf
  refine z_aload_n 0 dX9_pass_81 rfl rfl ?_
  refine z_cV_v (d' := d - 1) (As := []) (rest := []) dX9_pass_82 lk_X9_295 rfl hf (fun w1 e1 => zc_X9_nextTurn (by omega) e1) (by omega) rfl rfl (Nat.le_of_ble_eq_true rfl) fun y12 hf => ?_
  refine z_iload_n 1 dX9_pass_85 rfl rfl ?_
  refine z_if_eq 93 dX9_pass_86 (by decide) hf (fun hf => ?_) (fun hf => ?_)
  · refine z_iconst (0 : Int32) dX9_pass_93 (by decide) ?_
    exact z_iret dX9_pass_94 rfl (by cases hf; rfl)
  · refine z_iconst (1 : Int32) dX9_pass_89 (by decide) ?_
    refine z_goto 94 dX9_pass_90 (by decide) ?_
    exact z_iret dX9_pass_94 rfl (by cases hf; rfl)
set_option maxRecDepth 4000 in
theorem zj_X9_pass_55 {Γ : zG} {N d : Nat} {h0 : zH} (hd : 12 ≤ d) {v0 : Nat} {s0 : Int32} {h : zH} {w : Int32 × zH} (hf : f_X9_pass_j55 N v0 s0 h = some w) : Z Γ m_X9_pass d h0 (zoI w) 55 [(0, .ref v0)] [.int s0] h := by
  unfold f_X9_pass_j55 at hf
  refine z_istore_n [(1, .int s0), (0, .ref v0)] dX9_pass_55 rfl (by decide) rfl ?_
  refine z_iload_n 0 dX9_pass_56 rfl rfl ?_
  refine z_if_eq 81 dX9_pass_57 (by decide) hf (fun hf => ?_) (fun hf => ?_)
  · exact Z.sub [1, 0] rfl (zj_X9_pass_81 hd hf)
  · refine z_aload_n 1 dX9_pass_60 rfl rfl ?_
    refine z_getA dX9_pass_61 zc9 (by decide) wf_X9_17 hf fun x13 hf => ?_
    refine z_bipush (8 : Int32) dX9_pass_64 (by decide) ?_
    refine z_dup2 dX9_pass_66 rfl rfl ?_
    refine z_iaload dX9_pass_67 hf fun x14 hf => ?_
    refine z_aload_n 1 dX9_pass_68 rfl rfl ?_
    refine z_getA dX9_pass_69 zc9 (by decide) wf_X9_17 hf fun x15 hf => ?_
    refine z_bipush (6 : Int32) dX9_pass_72 (by decide) ?_
    refine z_iaload dX9_pass_74 hf fun x16 hf => ?_
    refine z_iadd dX9_pass_75 ?_
    refine z_iastore dX9_pass_76 hf fun h17 hf => ?_
    refine z_aload_n 1 dX9_pass_77 rfl rfl ?_
    refine z_cV_v (d' := d - 1) (As := []) (rest := []) dX9_pass_78 lk_X9_292 rfl hf (fun w1 e1 => zc_X9_nextLot (by omega) e1) (by omega) rfl rfl (Nat.le_of_ble_eq_true rfl) fun y18 hf => ?_
    exact Z.sub [1, 0] rfl (zj_X9_pass_81 hd hf)
set_option maxRecDepth 4000 in
theorem zc_X9_pass {Γ : zG} {N d : Nat} (hd : 12 ≤ d) {a : Nat} {h : zH} {w : Int32 × zH} (hf : f_X9_pass N a h = some w) : Zm Γ m_X9_pass d [.ref a] h (zoI w) := by
  unfold f_X9_pass at hf
  refine z_meth rfl (plainFor_of_name wpl_X9) (by simp [lg_sl, Value.category, zml, m_X9_pass]) ?_
  refine z_aload_n 0 dX9_pass_0 rfl rfl ?_
  refine z_iconst (0 : Int32) dX9_pass_1 (by decide) ?_
  refine z_putB dX9_pass_2 zc9 (by decide) wf_X9_46 (Or.inl rfl) rfl rfl hf fun h1 hf => ?_
  refine z_aload_n 0 dX9_pass_5 rfl rfl ?_
  refine z_aload_n 0 dX9_pass_6 rfl rfl ?_
  refine z_cV_i (d' := d - 1) (As := []) (rest := [.ref a]) dX9_pass_7 lk_X9_248 rfl hf (fun w1 e1 => zc_X9_isOver (by omega) e1) (by omega) rfl rfl (Nat.le_of_ble_eq_true rfl) fun y2 hf => ?_
  refine z_iconst (1 : Int32) dX9_pass_10 (by decide) ?_
  refine z_cV_i (d' := d - 1) (As := [.int y2.1, .int (1 : Int32)]) (rest := []) dX9_pass_11 lk_X9_185 rfl hf (fun w1 e1 => zc_X9_fails (by omega) e1) (by omega) rfl rfl (Nat.le_of_ble_eq_true rfl) fun y3 hf => ?_
  refine z_if_eq 19 dX9_pass_14 (by decide) hf (fun hf => ?_) (fun hf => ?_)
  · refine z_aload_n 0 dX9_pass_19 rfl rfl ?_
    refine z_cV_v (d' := d - 1) (As := []) (rest := []) dX9_pass_20 lk_X9_194 rfl hf (fun w1 e1 => zc_X9_remember (by omega) e1) (by omega) rfl rfl (Nat.le_of_ble_eq_true rfl) fun y4 hf => ?_
    refine z_aload_n 0 dX9_pass_23 rfl rfl ?_
    refine z_getA dX9_pass_24 zc9 (by decide) wf_X9_17 hf fun x5 hf => ?_
    refine z_bipush (7 : Int32) dX9_pass_27 (by decide) ?_
    refine z_dup2 dX9_pass_29 rfl rfl ?_
    refine z_iaload dX9_pass_30 hf fun x6 hf => ?_
    refine z_iconst (1 : Int32) dX9_pass_31 (by decide) ?_
    refine z_iadd dX9_pass_32 ?_
    refine z_iastore dX9_pass_33 hf fun h7 hf => ?_
    refine z_aload_n 0 dX9_pass_34 rfl rfl ?_
    refine z_getA dX9_pass_35 zc9 (by decide) wf_X9_17 hf fun x8 hf => ?_
    refine z_bipush (7 : Int32) dX9_pass_38 (by decide) ?_
    refine z_iaload dX9_pass_40 hf fun x9 hf => ?_
    refine z_aload_n 0 dX9_pass_41 rfl rfl ?_
    refine z_getA dX9_pass_42 zc9 (by decide) wf_X9_17 hf fun x10 hf => ?_
    refine z_iconst (1 : Int32) dX9_pass_45 (by decide) ?_
    refine z_iaload dX9_pass_46 hf fun x11 hf => ?_
    refine z_icmp_ne 54 dX9_pass_47 (by decide) hf (fun hf => ?_) (fun hf => ?_)
    · refine z_iconst (1 : Int32) dX9_pass_50 (by decide) ?_
      refine z_goto 55 dX9_pass_51 (by decide) ?_
      exact Z.sub [0] rfl (zj_X9_pass_55 hd hf)
    · refine z_iconst (0 : Int32) dX9_pass_54 (by decide) ?_
      exact Z.sub [0] rfl (zj_X9_pass_55 hd hf)
  · refine z_iconst (0 : Int32) dX9_pass_17 (by decide) ?_
    exact z_iret dX9_pass_18 rfl (by cases hf; rfl)
set_option maxRecDepth 4000 in
theorem zc_X8_give {Γ : zG} {N d : Nat} (hd : 15 ≤ d) {a : Nat} {p1 : Int32} {p2 : Int32} {p3 : Int32} {h : zH} {w : (Int32 ⊕ Nat) × zH} (hf : f_X8_give N a p1 p2 p3 h = some w) : Zm Γ m_X8_give d [.ref a, .int p1, .int p2, .int p3] h (zoTI w) := by
  unfold f_X8_give at hf
  refine z_meth rfl (plainFor_of_name wpl_X8) (by simp [lg_sl, Value.category, zml, m_X8_give]) ?_
  refine z_aload_n 0 dX8_give_0 rfl rfl ?_
  refine z_iload_n 1 dX8_give_1 rfl rfl ?_
  refine z_cV_ta (d' := d - 1) (As := [.int p1]) (rest := []) dX8_give_2 lk_X8_119 rfl hf (fun w1 e1 => zc_X8_existing (by omega) e1) (by omega) rfl rfl (Nat.le_of_ble_eq_true rfl) (fun y1 x2 hf => ?_) (fun y1 k3 hf => ?_)
  · refine z_astore [(4, .ref x2), (0, .ref a), (1, .int p1), (2, .int p2), (3, .int p3)] dX8_give_5 (by decide) rfl ?_
    refine z_aload_n 1 dX8_give_7 rfl rfl ?_
    refine z_iload_n 3 dX8_give_8 rfl rfl ?_
    refine z_cV_ti (d' := d - 1) (As := [.int p2]) (rest := []) dX8_give_9 lk_X8_164 rfl hf (fun w1 e1 => zc_X8_elementOf (by omega) e1) (by omega) rfl rfl (Nat.le_of_ble_eq_true rfl) (fun y4 x5 hf => ?_) (fun y4 k6 hf => ?_)
    · refine z_istore [(5, .int x5), (4, .ref x2), (0, .ref a), (1, .int p1), (2, .int p2), (3, .int p3)] dX8_give_12 (by decide) rfl ?_
      refine z_iload_n 5 dX8_give_14 rfl rfl ?_
      refine z_iconst (1 : Int32) dX8_give_15 (by decide) ?_
      refine z_icmp_lt 26 dX8_give_16 (by decide) hf (fun hf => ?_) (fun hf => ?_)
      · exact z_throw 1 (by decide) dX8_give_26 dX8_give_29 dX8_give_30 dX8_give_33 wc_X8_62 wi_x1 wx_X8_64a wx_X8_64b (by omega) rfl (Nat.le_of_ble_eq_true rfl) (by cases hf; rfl)
      · refine z_iload_n 5 dX8_give_19 rfl rfl ?_
        refine z_sipush (999 : Int32) dX8_give_20 (by decide) ?_
        refine z_icmp_le 34 dX8_give_23 (by decide) hf (fun hf => ?_) (fun hf => ?_)
        · refine z_aload 1 dX8_give_34 rfl ?_
          refine z_getA dX8_give_36 zc1 (by decide) wf_X8_128 hf fun x7 hf => ?_
          refine z_cV_i (d' := d - 1) (As := []) (rest := []) dX8_give_39 lk_X8_218 rfl hf (fun w1 e1 => zc_X6_isFull (by omega) e1) (by omega) rfl rfl (Nat.le_of_ble_eq_true rfl) fun y8 hf => ?_
          refine z_if_eq 53 dX8_give_42 (by decide) hf (fun hf => ?_) (fun hf => ?_)
          · refine z_aload_n 2 dX8_give_53 rfl rfl ?_
            refine z_getA dX8_give_54 zc8 (by decide) wf_X8_35 hf fun x9 hf => ?_
            refine z_aload_n 2 dX8_give_57 rfl rfl ?_
            refine z_getA dX8_give_58 zc8 (by decide) wf_X8_28 hf fun x10 hf => ?_
            refine z_cV_v (d' := d - 1) (As := [.ref x10]) (rest := []) dX8_give_61 lk_X8_72 rfl hf (fun w1 e1 => zc_X4_remember (by omega) e1) (by omega) rfl rfl (Nat.le_of_ble_eq_true rfl) fun y11 hf => ?_
            refine z_aload 1 dX8_give_64 rfl ?_
            refine z_iload 0 dX8_give_66 rfl ?_
            refine z_iload_n 5 dX8_give_68 rfl rfl ?_
            refine z_cV_v (d' := d - 1) (As := [.int x5, .int p3]) (rest := []) dX8_give_69 lk_X8_221 rfl hf (fun w1 e1 => zc_X1_takeCard (by omega) e1) (by omega) rfl rfl (Nat.le_of_ble_eq_true rfl) fun y12 hf => ?_
            refine z_aload 1 dX8_give_72 rfl ?_
            refine z_getA dX8_give_74 zc1 (by decide) wf_X8_128 hf fun x13 hf => ?_
            refine z_cV_i (d' := d - 1) (As := []) (rest := []) dX8_give_77 lk_X8_93 rfl hf (fun w1 e1 => zc_X6_size (by omega) e1) (by omega) rfl rfl (Nat.le_of_ble_eq_true rfl) fun y14 hf => ?_
            exact z_iret dX8_give_80 rfl (by cases hf; rfl)
          · exact z_throw 0 (by decide) dX8_give_45 dX8_give_48 dX8_give_49 dX8_give_52 wc_X8_212 wi_x0 wx_X8_214a wx_X8_214b (by omega) rfl (Nat.le_of_ble_eq_true rfl) (by cases hf; rfl)
        · exact z_throw 1 (by decide) dX8_give_26 dX8_give_29 dX8_give_30 dX8_give_33 wc_X8_62 wi_x1 wx_X8_64a wx_X8_64b (by omega) rfl (Nat.le_of_ble_eq_true rfl) (by cases hf; rfl)
    · exact zx_out rfl (by cases hf; rfl)
  · exact zx_out rfl (by cases hf; rfl)
set_option maxRecDepth 4000 in
theorem zc_L_give {Γ : zG} {N d : Nat} (hd : 16 ≤ d) {p1 : Nat} {p2 : Int32} {p3 : Int32} {p4 : Int32} {p5 : Nat} {h : zH} {w : Int32 × zH} (hf : f_L_give N p1 p2 p3 p4 p5 h = some w) : Zm Γ m_L_give d [.ref p1, .int p2, .int p3, .int p4, .ref p5] h (zoI w) := by
  unfold f_L_give at hf
  refine z_methH (by decide) (by decide +kernel) (by simp [lg_sl, Value.category, zml, m_L_give]) ?_
  refine z_aload 4 dL_give_0 rfl ?_
  refine z_iconst (0 : Int32) dL_give_2 (by decide) ?_
  refine z_aload_n 0 dL_give_3 rfl rfl ?_
  refine z_iload_n 1 dL_give_4 rfl rfl ?_
  refine z_iload_n 2 dL_give_5 rfl rfl ?_
  refine z_iload_n 3 dL_give_6 rfl rfl ?_
  refine z_cV_ti (d' := d - 1) (As := [.int p2, .int p3, .int p4]) (rest := [.int (0 : Int32), .ref p5]) dL_give_7 lk_L_76 rfl hf (fun w1 e1 => zc_X8_give (by omega) e1) (by omega) rfl rfl (Nat.le_of_ble_eq_true rfl) (fun y1 x2 hf => ?_) (fun y1 k3 hf => ?_)
  · refine z_i2l dL_give_10 ?_
    refine z_lastore dL_give_11 hf fun h4 hf => ?_
    refine z_goto 27 dL_give_12 (by decide) ?_
    refine z_iconst (0 : Int32) dL_give_27 (by decide) ?_
    exact z_iret dL_give_28 rfl (by cases hf; rfl)
  · by_cases e0 : k3 = 2
    · rw [if_pos e0] at hf
      subst e0
      refine zx_catch (by decide) [] (0, 12, 15, 22) [(0, 12, 19, 13), (0, 12, 23, 67)] rfl (fun z hz => absurd hz List.not_mem_nil) (by decide) (by decide) wc_L_22 wct_2 fun q5 => ?_
      refine z_astore [(5, .ref q5), (0, .ref p1), (1, .int p2), (2, .int p3), (3, .int p4), (4, .ref p5)] dL_give_15 (by decide) rfl ?_
      refine z_iconst (1 : Int32) dL_give_17 (by decide) ?_
      exact z_iret dL_give_18 rfl (by cases hf; rfl)
    · rw [if_neg e0] at hf
      by_cases e1 : k3 = 1
      · rw [if_pos e1] at hf
        subst e1
        refine zx_catch (by decide) [(0, 12, 15, 22)] (0, 12, 19, 13) [(0, 12, 23, 67)] rfl (List.forall_mem_cons.mpr ⟨⟨by decide, 2, by decide, by decide, wc_L_22⟩, fun z hz => absurd hz List.not_mem_nil⟩) (by decide) (by decide) wc_L_13 wct_1 fun q6 => ?_
        refine z_astore [(5, .ref q6), (0, .ref p1), (1, .int p2), (2, .int p3), (3, .int p4), (4, .ref p5)] dL_give_19 (by decide) rfl ?_
        refine z_iconst (2 : Int32) dL_give_21 (by decide) ?_
        exact z_iret dL_give_22 rfl (by cases hf; rfl)
      · rw [if_neg e1] at hf
        by_cases e2 : k3 = 0
        · rw [if_pos e2] at hf
          subst e2
          refine zx_catch (by decide) [(0, 12, 15, 22), (0, 12, 19, 13)] (0, 12, 23, 67) [] rfl (List.forall_mem_cons.mpr ⟨⟨by decide, 2, by decide, by decide, wc_L_22⟩, List.forall_mem_cons.mpr ⟨⟨by decide, 1, by decide, by decide, wc_L_13⟩, fun z hz => absurd hz List.not_mem_nil⟩⟩) (by decide) (by decide) wc_L_67 wct_0 fun q7 => ?_
          refine z_astore [(5, .ref q7), (0, .ref p1), (1, .int p2), (2, .int p3), (3, .int p4), (4, .ref p5)] dL_give_23 (by decide) rfl ?_
          refine z_iconst (3 : Int32) dL_give_25 (by decide) ?_
          exact z_iret dL_give_26 rfl (by cases hf; rfl)
        · rw [if_neg e2] at hf
          cases hf
set_option maxRecDepth 4000 in
theorem zj_X9_give_62 {Γ : zG} {N d : Nat} {h0 : zH} (hd : 12 ≤ d) {v0 : Nat} {v1 : Int32} {v2 : Int32} {v3 : Int32} {s0 : Nat} {s1 : Int32} {h : zH} {w : Int32 × zH} (hf : f_X9_give_j62 N v0 v1 v2 v3 s0 s1 h = some w) : Z Γ m_X9_give d h0 (zoI w) 62 [(0, .ref v0), (1, .int v1), (2, .int v2), (3, .int v3)] [.int s1, .ref s0] h := by
  unfold f_X9_give_j62 at hf
  refine z_iconst (3 : Int32) dX9_give_62 (by decide) ?_
  refine z_cV_i (d' := d - 1) (As := [.int s1, .int (3 : Int32)]) (rest := []) dX9_give_63 lk_X9_185 rfl hf (fun w1 e1 => zc_X9_fails (by omega) e1) (by omega) rfl rfl (Nat.le_of_ble_eq_true rfl) fun y7 hf => ?_
  refine z_if_eq 71 dX9_give_66 (by decide) hf (fun hf => ?_) (fun hf => ?_)
  · refine z_aload_n 0 dX9_give_71 rfl rfl ?_
    refine z_cV_v (d' := d - 1) (As := []) (rest := []) dX9_give_72 lk_X9_194 rfl hf (fun w1 e1 => zc_X9_remember (by omega) e1) (by omega) rfl rfl (Nat.le_of_ble_eq_true rfl) fun y8 hf => ?_
    refine z_aload_n 0 dX9_give_75 rfl rfl ?_
    refine z_getA dX9_give_76 zc9 (by decide) wf_X9_17 hf fun x9 hf => ?_
    refine z_iload_n 1 dX9_give_79 rfl rfl ?_
    refine z_iload_n 2 dX9_give_80 rfl rfl ?_
    refine z_iload_n 3 dX9_give_81 rfl rfl ?_
    refine z_cS_v (d' := d - 1) (As := [.ref x9, .int v1, .int v2, .int v3]) (rest := []) dX9_give_82 lk_X9_161 hf (fun w1 e1 => zc_X9_putCard (by omega) e1) (by omega) rfl rfl (Nat.le_of_ble_eq_true rfl) fun y10 hf => ?_
    refine z_aload_n 0 dX9_give_85 rfl rfl ?_
    refine z_iload_n 1 dX9_give_86 rfl rfl ?_
    refine z_cV_i (d' := d - 1) (As := [.int v1]) (rest := []) dX9_give_87 lk_X9_242 rfl hf (fun w1 e1 => zc_X9_cardsOf (by omega) e1) (by omega) rfl rfl (Nat.le_of_ble_eq_true rfl) fun y11 hf => ?_
    exact z_iret dX9_give_90 rfl (by cases hf; rfl)
  · refine z_iconst (0 : Int32) dX9_give_69 (by decide) ?_
    exact z_iret dX9_give_70 rfl (by cases hf; rfl)
set_option maxRecDepth 4000 in
theorem zj_X9_give_39 {Γ : zG} {N d : Nat} {h0 : zH} (hd : 12 ≤ d) {v0 : Nat} {v1 : Int32} {v2 : Int32} {v3 : Int32} {s0 : Nat} {s1 : Int32} {h : zH} {w : Int32 × zH} (hf : f_X9_give_j39 N v0 v1 v2 v3 s0 s1 h = some w) : Z Γ m_X9_give d h0 (zoI w) 39 [(0, .ref v0), (1, .int v1), (2, .int v2), (3, .int v3)] [.int s1, .ref s0] h := by
  unfold f_X9_give_j39 at hf
  refine z_iconst (2 : Int32) dX9_give_39 (by decide) ?_
  refine z_cV_i (d' := d - 1) (As := [.int s1, .int (2 : Int32)]) (rest := []) dX9_give_40 lk_X9_185 rfl hf (fun w1 e1 => zc_X9_fails (by omega) e1) (by omega) rfl rfl (Nat.le_of_ble_eq_true rfl) fun y5 hf => ?_
  refine z_if_ne 69 dX9_give_43 (by decide) hf (fun hf => ?_) (fun hf => ?_)
  · refine z_aload_n 0 dX9_give_46 rfl rfl ?_
    refine z_aload_n 0 dX9_give_47 rfl rfl ?_
    refine z_iload_n 1 dX9_give_48 rfl rfl ?_
    refine z_cV_i (d' := d - 1) (As := [.int v1]) (rest := [.ref v0]) dX9_give_49 lk_X9_242 rfl hf (fun w1 e1 => zc_X9_cardsOf (by omega) e1) (by omega) rfl rfl (Nat.le_of_ble_eq_true rfl) fun y6 hf => ?_
    refine z_bipush (8 : Int32) dX9_give_52 (by decide) ?_
    refine z_icmp_ne 61 dX9_give_54 (by decide) hf (fun hf => ?_) (fun hf => ?_)
    · refine z_iconst (1 : Int32) dX9_give_57 (by decide) ?_
      refine z_goto 62 dX9_give_58 (by decide) ?_
      exact Z.sub [0, 1, 2, 3] rfl (zj_X9_give_62 hd hf)
    · refine z_iconst (0 : Int32) dX9_give_61 (by decide) ?_
      exact Z.sub [0, 1, 2, 3] rfl (zj_X9_give_62 hd hf)
  · refine z_iconst (0 : Int32) dX9_give_69 (by decide) ?_
    exact z_iret dX9_give_70 rfl (by cases hf; rfl)
set_option maxRecDepth 4000 in
theorem zc_X9_give {Γ : zG} {N d : Nat} (hd : 12 ≤ d) {a : Nat} {p1 : Int32} {p2 : Int32} {p3 : Int32} {h : zH} {w : Int32 × zH} (hf : f_X9_give N a p1 p2 p3 h = some w) : Zm Γ m_X9_give d [.ref a, .int p1, .int p2, .int p3] h (zoI w) := by
  unfold f_X9_give at hf
  refine z_meth rfl (plainFor_of_name wpl_X9) (by simp [lg_sl, Value.category, zml, m_X9_give]) ?_
  refine z_aload_n 0 dX9_give_0 rfl rfl ?_
  refine z_iconst (0 : Int32) dX9_give_1 (by decide) ?_
  refine z_putB dX9_give_2 zc9 (by decide) wf_X9_46 (Or.inl rfl) rfl rfl hf fun h1 hf => ?_
  refine z_aload_n 0 dX9_give_5 rfl rfl ?_
  refine z_iload_n 1 dX9_give_6 rfl rfl ?_
  refine z_cV_i (d' := d - 1) (As := [.int p1]) (rest := []) dX9_give_7 lk_X9_254 rfl hf (fun w1 e1 => zc_X9_noPlayer (by omega) e1) (by omega) rfl rfl (Nat.le_of_ble_eq_true rfl) fun y2 hf => ?_
  refine z_if_ne 69 dX9_give_10 (by decide) hf (fun hf => ?_) (fun hf => ?_)
  · refine z_aload_n 0 dX9_give_13 rfl rfl ?_
    refine z_iload_n 2 dX9_give_14 rfl rfl ?_
    refine z_iconst (2 : Int32) dX9_give_15 (by decide) ?_
    refine z_cV_i (d' := d - 1) (As := [.int p2, .int (2 : Int32)]) (rest := []) dX9_give_16 lk_X9_266 rfl hf (fun w1 e1 => zc_X9_noElement (by omega) e1) (by omega) rfl rfl (Nat.le_of_ble_eq_true rfl) fun y3 hf => ?_
    refine z_if_ne 69 dX9_give_19 (by decide) hf (fun hf => ?_) (fun hf => ?_)
    · refine z_aload_n 0 dX9_give_22 rfl rfl ?_
      refine z_iload_n 3 dX9_give_23 rfl rfl ?_
      refine z_iconst (1 : Int32) dX9_give_24 (by decide) ?_
      refine z_sipush (999 : Int32) dX9_give_25 (by decide) ?_
      refine z_cS_i (d' := d - 1) (As := [.int p3, .int (1 : Int32), .int (999 : Int32)]) (rest := [.ref a]) dX9_give_28 lk_X9_79 hf (fun w1 e1 => zc_X9_in (by omega) e1) (by omega) rfl rfl (Nat.le_of_ble_eq_true rfl) fun y4 hf => ?_
      refine z_if_ne 38 dX9_give_31 (by decide) hf (fun hf => ?_) (fun hf => ?_)
      · refine z_iconst (1 : Int32) dX9_give_34 (by decide) ?_
        refine z_goto 39 dX9_give_35 (by decide) ?_
        exact Z.sub [0, 1, 2, 3] rfl (zj_X9_give_39 hd hf)
      · refine z_iconst (0 : Int32) dX9_give_38 (by decide) ?_
        exact Z.sub [0, 1, 2, 3] rfl (zj_X9_give_39 hd hf)
    · refine z_iconst (0 : Int32) dX9_give_69 (by decide) ?_
      exact z_iret dX9_give_70 rfl (by cases hf; rfl)
  · refine z_iconst (0 : Int32) dX9_give_69 (by decide) ?_
    exact z_iret dX9_give_70 rfl (by cases hf; rfl)
set_option maxRecDepth 4000 in
theorem zc_X8_discard {Γ : zG} {N d : Nat} (hd : 15 ≤ d) {a : Nat} {p1 : Int32} {p2 : Int32} {h : zH} {w : (Int32 ⊕ Nat) × zH} (hf : f_X8_discard N a p1 p2 h = some w) : Zm Γ m_X8_discard d [.ref a, .int p1, .int p2] h (zoTI w) := by
  unfold f_X8_discard at hf
  refine z_meth rfl (plainFor_of_name wpl_X8) (by simp [lg_sl, Value.category, zml, m_X8_discard]) ?_
  refine z_aload_n 0 dX8_discard_0 rfl rfl ?_
  refine z_iload_n 1 dX8_discard_1 rfl rfl ?_
  refine z_cV_ta (d' := d - 1) (As := [.int p1]) (rest := []) dX8_discard_2 lk_X8_119 rfl hf (fun w1 e1 => zc_X8_existing (by omega) e1) (by omega) rfl rfl (Nat.le_of_ble_eq_true rfl) (fun y1 x2 hf => ?_) (fun y1 k3 hf => ?_)
  · refine z_astore_n [(3, .ref x2), (0, .ref a), (1, .int p1), (2, .int p2)] dX8_discard_5 rfl (by decide) rfl ?_
    refine z_aload_n 0 dX8_discard_6 rfl rfl ?_
    refine z_getA dX8_discard_7 zc1 (by decide) wf_X8_128 hf fun x4 hf => ?_
    refine z_iload_n 3 dX8_discard_10 rfl rfl ?_
    refine z_cV_i (d' := d - 1) (As := [.int p2]) (rest := []) dX8_discard_11 lk_X8_134 rfl hf (fun w1 e1 => zc_X6_holds (by omega) e1) (by omega) rfl rfl (Nat.le_of_ble_eq_true rfl) fun y5 hf => ?_
    refine z_if_ne 25 dX8_discard_14 (by decide) hf (fun hf => ?_) (fun hf => ?_)
    · exact z_throw 3 (by decide) dX8_discard_17 dX8_discard_20 dX8_discard_21 dX8_discard_24 wc_X8_138 wi_x3 wx_X8_140a wx_X8_140b (by omega) rfl (Nat.le_of_ble_eq_true rfl) (by cases hf; rfl)
    · refine z_aload_n 1 dX8_discard_25 rfl rfl ?_
      refine z_getA dX8_discard_26 zc8 (by decide) wf_X8_35 hf fun x6 hf => ?_
      refine z_aload_n 1 dX8_discard_29 rfl rfl ?_
      refine z_getA dX8_discard_30 zc8 (by decide) wf_X8_28 hf fun x7 hf => ?_
      refine z_cV_v (d' := d - 1) (As := [.ref x7]) (rest := []) dX8_discard_33 lk_X8_72 rfl hf (fun w1 e1 => zc_X4_remember (by omega) e1) (by omega) rfl rfl (Nat.le_of_ble_eq_true rfl) fun y8 hf => ?_
      refine z_aload_n 0 dX8_discard_36 rfl rfl ?_
      refine z_getA dX8_discard_37 zc1 (by decide) wf_X8_128 hf fun x9 hf => ?_
      refine z_iload_n 3 dX8_discard_40 rfl rfl ?_
      refine z_cV_i (d' := d - 1) (As := [.int p2]) (rest := []) dX8_discard_41 lk_X8_141 rfl hf (fun w1 e1 => zc_X6_at (by omega) e1) (by omega) rfl rfl (Nat.le_of_ble_eq_true rfl) fun y10 hf => ?_
      refine z_istore [(4, .int y10.1), (3, .ref x2), (0, .ref a), (1, .int p1), (2, .int p2)] dX8_discard_44 (by decide) rfl ?_
      refine z_aload_n 1 dX8_discard_46 rfl rfl ?_
      refine z_iload_n 4 dX8_discard_47 rfl rfl ?_
      refine z_cV_v (d' := d - 1) (As := [.int p2]) (rest := []) dX8_discard_48 lk_X8_225 rfl hf (fun w1 e1 => zc_X1_dropCard (by omega) e1) (by omega) rfl rfl (Nat.le_of_ble_eq_true rfl) fun y11 hf => ?_
      refine z_aload_n 2 dX8_discard_51 rfl rfl ?_
      refine z_iload 0 dX8_discard_52 rfl ?_
      refine z_cV_i (d' := d - 1) (As := [.int y10.1]) (rest := []) dX8_discard_54 lk_X8_144 rfl hf (fun w1 e1 => zc_X8_numberOf (by omega) e1) (by omega) rfl rfl (Nat.le_of_ble_eq_true rfl) fun y12 hf => ?_
      exact z_iret dX8_discard_57 rfl (by cases hf; rfl)
  · exact zx_out rfl (by cases hf; rfl)
set_option maxRecDepth 4000 in
theorem zc_L_discard {Γ : zG} {N d : Nat} (hd : 16 ≤ d) {p1 : Nat} {p2 : Int32} {p3 : Int32} {p4 : Nat} {h : zH} {w : Int32 × zH} (hf : f_L_discard N p1 p2 p3 p4 h = some w) : Zm Γ m_L_discard d [.ref p1, .int p2, .int p3, .ref p4] h (zoI w) := by
  unfold f_L_discard at hf
  refine z_methH (by decide) (by decide +kernel) (by simp [lg_sl, Value.category, zml, m_L_discard]) ?_
  refine z_aload_n 3 dL_discard_0 rfl rfl ?_
  refine z_iconst (0 : Int32) dL_discard_1 (by decide) ?_
  refine z_aload_n 0 dL_discard_2 rfl rfl ?_
  refine z_iload_n 1 dL_discard_3 rfl rfl ?_
  refine z_iload_n 2 dL_discard_4 rfl rfl ?_
  refine z_cV_ti (d' := d - 1) (As := [.int p2, .int p3]) (rest := [.int (0 : Int32), .ref p4]) dL_discard_5 lk_L_79 rfl hf (fun w1 e1 => zc_X8_discard (by omega) e1) (by omega) rfl rfl (Nat.le_of_ble_eq_true rfl) (fun y1 x2 hf => ?_) (fun y1 k3 hf => ?_)
  · refine z_i2l dL_discard_8 ?_
    refine z_lastore dL_discard_9 hf fun h4 hf => ?_
    refine z_goto 21 dL_discard_10 (by decide) ?_
    refine z_iconst (0 : Int32) dL_discard_21 (by decide) ?_
    exact z_iret dL_discard_22 rfl (by cases hf; rfl)
  · by_cases e0 : k3 = 2
    · rw [if_pos e0] at hf
      subst e0
      refine zx_catch (by decide) [] (0, 10, 13, 22) [(0, 10, 17, 28)] rfl (fun z hz => absurd hz List.not_mem_nil) (by decide) (by decide) wc_L_22 wct_2 fun q5 => ?_
      refine z_astore [(4, .ref q5), (0, .ref p1), (1, .int p2), (2, .int p3), (3, .ref p4)] dL_discard_13 (by decide) rfl ?_
      refine z_iconst (1 : Int32) dL_discard_15 (by decide) ?_
      exact z_iret dL_discard_16 rfl (by cases hf; rfl)
    · rw [if_neg e0] at hf
      by_cases e1 : k3 = 3
      · rw [if_pos e1] at hf
        subst e1
        refine zx_catch (by decide) [(0, 10, 13, 22)] (0, 10, 17, 28) [] rfl (List.forall_mem_cons.mpr ⟨⟨by decide, 2, by decide, by decide, wc_L_22⟩, fun z hz => absurd hz List.not_mem_nil⟩) (by decide) (by decide) wc_L_28 wct_3 fun q6 => ?_
        refine z_astore [(4, .ref q6), (0, .ref p1), (1, .int p2), (2, .int p3), (3, .ref p4)] dL_discard_17 (by decide) rfl ?_
        refine z_iconst (2 : Int32) dL_discard_19 (by decide) ?_
        exact z_iret dL_discard_20 rfl (by cases hf; rfl)
      · rw [if_neg e1] at hf
        cases hf
set_option maxRecDepth 4000 in
theorem zj_X9_discard_34 {Γ : zG} {N d : Nat} {h0 : zH} (hd : 12 ≤ d) {v0 : Nat} {v1 : Int32} {v2 : Int32} {s0 : Nat} {s1 : Int32} {h : zH} {w : Int32 × zH} (hf : f_X9_discard_j34 N v0 v1 v2 s0 s1 h = some w) : Z Γ m_X9_discard d h0 (zoI w) 34 [(0, .ref v0), (1, .int v1), (2, .int v2)] [.int s1, .ref s0] h := by
  unfold f_X9_discard_j34 at hf
  refine z_iconst (2 : Int32) dX9_discard_34 (by decide) ?_
  refine z_cV_i (d' := d - 1) (As := [.int s1, .int (2 : Int32)]) (rest := []) dX9_discard_35 lk_X9_185 rfl hf (fun w1 e1 => zc_X9_fails (by omega) e1) (by omega) rfl rfl (Nat.le_of_ble_eq_true rfl) fun y5 hf => ?_
  refine z_if_eq 43 dX9_discard_38 (by decide) hf (fun hf => ?_) (fun hf => ?_)
  · refine z_aload_n 0 dX9_discard_43 rfl rfl ?_
    refine z_cV_v (d' := d - 1) (As := []) (rest := []) dX9_discard_44 lk_X9_194 rfl hf (fun w1 e1 => zc_X9_remember (by omega) e1) (by omega) rfl rfl (Nat.le_of_ble_eq_true rfl) fun y6 hf => ?_
    refine z_aload_n 0 dX9_discard_47 rfl rfl ?_
    refine z_iload_n 1 dX9_discard_48 rfl rfl ?_
    refine z_iload_n 2 dX9_discard_49 rfl rfl ?_
    refine z_cV_i (d' := d - 1) (As := [.int v1, .int v2]) (rest := []) dX9_discard_50 lk_X9_221 rfl hf (fun w1 e1 => zc_X9_elementOf (by omega) e1) (by omega) rfl rfl (Nat.le_of_ble_eq_true rfl) fun y7 hf => ?_
    refine z_istore_n [(3, .int y7.1), (0, .ref v0), (1, .int v1), (2, .int v2)] dX9_discard_53 rfl (by decide) rfl ?_
    refine z_aload_n 1 dX9_discard_54 rfl rfl ?_
    refine z_iload_n 2 dX9_discard_55 rfl rfl ?_
    refine z_iload_n 3 dX9_discard_56 rfl rfl ?_
    refine z_cV_v (d' := d - 1) (As := [.int v1, .int v2]) (rest := []) dX9_discard_57 lk_X9_304 rfl hf (fun w1 e1 => zc_X9_dropCard (by omega) e1) (by omega) rfl rfl (Nat.le_of_ble_eq_true rfl) fun y8 hf => ?_
    refine z_iload_n 0 dX9_discard_60 rfl rfl ?_
    exact z_iret dX9_discard_61 rfl (by cases hf; rfl)
  · refine z_iconst (0 : Int32) dX9_discard_41 (by decide) ?_
    exact z_iret dX9_discard_42 rfl (by cases hf; rfl)
set_option maxRecDepth 4000 in
theorem zc_X9_discard {Γ : zG} {N d : Nat} (hd : 12 ≤ d) {a : Nat} {p1 : Int32} {p2 : Int32} {h : zH} {w : Int32 × zH} (hf : f_X9_discard N a p1 p2 h = some w) : Zm Γ m_X9_discard d [.ref a, .int p1, .int p2] h (zoI w) := by
  unfold f_X9_discard at hf
  refine z_meth rfl (plainFor_of_name wpl_X9) (by simp [lg_sl, Value.category, zml, m_X9_discard]) ?_
  refine z_aload_n 0 dX9_discard_0 rfl rfl ?_
  refine z_iconst (0 : Int32) dX9_discard_1 (by decide) ?_
  refine z_putB dX9_discard_2 zc9 (by decide) wf_X9_46 (Or.inl rfl) rfl rfl hf fun h1 hf => ?_
  refine z_aload_n 0 dX9_discard_5 rfl rfl ?_
  refine z_iload_n 1 dX9_discard_6 rfl rfl ?_
  refine z_cV_i (d' := d - 1) (As := [.int p1]) (rest := []) dX9_discard_7 lk_X9_254 rfl hf (fun w1 e1 => zc_X9_noPlayer (by omega) e1) (by omega) rfl rfl (Nat.le_of_ble_eq_true rfl) fun y2 hf => ?_
  refine z_if_ne 41 dX9_discard_10 (by decide) hf (fun hf => ?_) (fun hf => ?_)
  · refine z_aload_n 0 dX9_discard_13 rfl rfl ?_
    refine z_iload_n 2 dX9_discard_14 rfl rfl ?_
    refine z_iconst (0 : Int32) dX9_discard_15 (by decide) ?_
    refine z_aload_n 0 dX9_discard_16 rfl rfl ?_
    refine z_iload_n 1 dX9_discard_17 rfl rfl ?_
    refine z_cV_i (d' := d - 1) (As := [.int p1]) (rest := [.int (0 : Int32), .int p2, .ref a]) dX9_discard_18 lk_X9_242 rfl hf (fun w1 e1 => zc_X9_cardsOf (by omega) e1) (by omega) rfl rfl (Nat.le_of_ble_eq_true rfl) fun y3 hf => ?_
    refine z_iconst (1 : Int32) dX9_discard_21 (by decide) ?_
    refine z_isub dX9_discard_22 ?_
    refine z_cS_i (d' := d - 1) (As := [.int p2, .int (0 : Int32), .int (y3.1 - (1 : Int32))]) (rest := [.ref a]) dX9_discard_23 lk_X9_79 hf (fun w1 e1 => zc_X9_in (by omega) e1) (by omega) rfl rfl (Nat.le_of_ble_eq_true rfl) fun y4 hf => ?_
    refine z_if_ne 33 dX9_discard_26 (by decide) hf (fun hf => ?_) (fun hf => ?_)
    · refine z_iconst (1 : Int32) dX9_discard_29 (by decide) ?_
      refine z_goto 34 dX9_discard_30 (by decide) ?_
      exact Z.sub [0, 1, 2] rfl (zj_X9_discard_34 hd hf)
    · refine z_iconst (0 : Int32) dX9_discard_33 (by decide) ?_
      exact Z.sub [0, 1, 2] rfl (zj_X9_discard_34 hd hf)
  · refine z_iconst (0 : Int32) dX9_discard_41 (by decide) ?_
    exact z_iret dX9_discard_42 rfl (by cases hf; rfl)
set_option maxRecDepth 4000 in
theorem zc_X4_size {Γ : zG} {N d : Nat} (hd : 10 ≤ d) {a : Nat} {h : zH} {w : Int32 × zH} (hf : f_X4_size N a h = some w) : Zm Γ m_X4_size d [.ref a] h (zoI w) := by
  unfold f_X4_size at hf
  refine z_meth rfl (plainFor_of_name wpl_X4) (by simp [lg_sl, Value.category, zml, m_X4_size]) ?_
  refine z_aload_n 0 dX4_size_0 rfl rfl ?_
  refine z_getI dX4_size_1 zc4 (by decide) wf_X4_20 hf fun x1 hf => ?_
  exact z_iret dX4_size_4 rfl (by cases hf; rfl)
set_option maxRecDepth 4000 in
theorem zc_X4_bringBack {Γ : zG} {N d : Nat} (hd : 14 ≤ d) {a : Nat} {p1 : Nat} {h : zH} {w : zH} (hf : f_X4_bringBack N a p1 h = some w) : Zm Γ m_X4_bringBack d [.ref a, .ref p1] h (zoV w) := by
  unfold f_X4_bringBack at hf
  refine z_meth rfl (plainFor_of_name wpl_X4) (by simp [lg_sl, Value.category, zml, m_X4_bringBack]) ?_
  refine z_aload_n 0 dX4_bringBack_0 rfl rfl ?_
  refine z_getI dX4_bringBack_1 zc4 (by decide) wf_X4_20 hf fun x1 hf => ?_
  refine z_if_le 34 dX4_bringBack_4 (by decide) hf (fun hf => ?_) (fun hf => ?_)
  · exact z_vret dX4_bringBack_34 rfl (by cases hf; rfl)
  · refine z_aload_n 0 dX4_bringBack_7 rfl rfl ?_
    refine z_dup dX4_bringBack_8 rfl ?_
    refine z_getI dX4_bringBack_9 zc4 (by decide) wf_X4_20 hf fun x2 hf => ?_
    refine z_iconst (1 : Int32) dX4_bringBack_12 (by decide) ?_
    refine z_isub dX4_bringBack_13 ?_
    refine z_putB dX4_bringBack_14 zc4 (by decide) wf_X4_20 (Or.inl rfl) rfl rfl hf fun h3 hf => ?_
    refine z_aload_n 1 dX4_bringBack_17 rfl rfl ?_
    refine z_aload_n 0 dX4_bringBack_18 rfl rfl ?_
    refine z_getA dX4_bringBack_19 zc4 (by decide) wf_X4_11 hf fun x4 hf => ?_
    refine z_aload_n 0 dX4_bringBack_22 rfl rfl ?_
    refine z_aload_n 0 dX4_bringBack_23 rfl rfl ?_
    refine z_getI dX4_bringBack_24 zc4 (by decide) wf_X4_20 hf fun x5 hf => ?_
    refine z_cV_i (d' := d - 1) (As := [.int x5]) (rest := [.ref x4, .ref p1]) dX4_bringBack_27 lk_X4_33 rfl hf (fun w1 e1 => zc_X4_placeOf (by omega) e1) (by omega) rfl rfl (Nat.le_of_ble_eq_true rfl) fun y6 hf => ?_
    refine z_aaload dX4_bringBack_30 hf fun x7 hf => ?_
    refine z_cV_v (d' := d - 1) (As := [.ref x7]) (rest := []) dX4_bringBack_31 lk_X4_37 rfl hf (fun w1 e1 => zc_X0_copyFrom (by omega) e1) (by omega) rfl rfl (Nat.le_of_ble_eq_true rfl) fun y8 hf => ?_
    exact z_vret dX4_bringBack_34 rfl (by cases hf; rfl)
set_option maxRecDepth 4000 in
theorem zc_X8_undo {Γ : zG} {N d : Nat} (hd : 15 ≤ d) {a : Nat} {h : zH} {w : Int32 × zH} (hf : f_X8_undo N a h = some w) : Zm Γ m_X8_undo d [.ref a] h (zoI w) := by
  unfold f_X8_undo at hf
  refine z_meth rfl (plainFor_of_name wpl_X8) (by simp [lg_sl, Value.category, zml, m_X8_undo]) ?_
  refine z_aload_n 0 dX8_undo_0 rfl rfl ?_
  refine z_getA dX8_undo_1 zc8 (by decide) wf_X8_35 hf fun x1 hf => ?_
  refine z_cV_i (d' := d - 1) (As := []) (rest := []) dX8_undo_4 lk_X8_228 rfl hf (fun w1 e1 => zc_X4_size (by omega) e1) (by omega) rfl rfl (Nat.le_of_ble_eq_true rfl) fun y2 hf => ?_
  refine z_if_ne 12 dX8_undo_7 (by decide) hf (fun hf => ?_) (fun hf => ?_)
  · refine z_iconst (-1 : Int32) dX8_undo_10 (by decide) ?_
    exact z_iret dX8_undo_11 rfl (by cases hf; rfl)
  · refine z_aload_n 0 dX8_undo_12 rfl rfl ?_
    refine z_getA dX8_undo_13 zc8 (by decide) wf_X8_35 hf fun x3 hf => ?_
    refine z_aload_n 0 dX8_undo_16 rfl rfl ?_
    refine z_getA dX8_undo_17 zc8 (by decide) wf_X8_28 hf fun x4 hf => ?_
    refine z_cV_v (d' := d - 1) (As := [.ref x4]) (rest := []) dX8_undo_20 lk_X8_229 rfl hf (fun w1 e1 => zc_X4_bringBack (by omega) e1) (by omega) rfl rfl (Nat.le_of_ble_eq_true rfl) fun y5 hf => ?_
    refine z_aload_n 0 dX8_undo_23 rfl rfl ?_
    refine z_getA dX8_undo_24 zc8 (by decide) wf_X8_35 hf fun x6 hf => ?_
    refine z_cV_i (d' := d - 1) (As := []) (rest := []) dX8_undo_27 lk_X8_228 rfl hf (fun w1 e1 => zc_X4_size (by omega) e1) (by omega) rfl rfl (Nat.le_of_ble_eq_true rfl) fun y7 hf => ?_
    exact z_iret dX8_undo_30 rfl (by cases hf; rfl)
set_option maxRecDepth 4000 in
theorem zc_X9_undo {Γ : zG} {N d : Nat} (hd : 11 ≤ d) {a : Nat} {h : zH} {w : Int32 × zH} (hf : f_X9_undo N a h = some w) : Zm Γ m_X9_undo d [.ref a] h (zoI w) := by
  unfold f_X9_undo at hf
  refine z_meth rfl (plainFor_of_name wpl_X9) (by simp [lg_sl, Value.category, zml, m_X9_undo]) ?_
  refine z_aload_n 0 dX9_undo_0 rfl rfl ?_
  refine z_iconst (0 : Int32) dX9_undo_1 (by decide) ?_
  refine z_putB dX9_undo_2 zc9 (by decide) wf_X9_46 (Or.inl rfl) rfl rfl hf fun h1 hf => ?_
  refine z_aload_n 0 dX9_undo_5 rfl rfl ?_
  refine z_getI dX9_undo_6 zc9 (by decide) wf_X9_285 hf fun x2 hf => ?_
  refine z_if_ne 14 dX9_undo_9 (by decide) hf (fun hf => ?_) (fun hf => ?_)
  · refine z_iconst (-1 : Int32) dX9_undo_12 (by decide) ?_
    exact z_iret dX9_undo_13 rfl (by cases hf; rfl)
  · refine z_aload_n 0 dX9_undo_14 rfl rfl ?_
    refine z_dup dX9_undo_15 rfl ?_
    refine z_getI dX9_undo_16 zc9 (by decide) wf_X9_285 hf fun x3 hf => ?_
    refine z_iconst (1 : Int32) dX9_undo_19 (by decide) ?_
    refine z_isub dX9_undo_20 ?_
    refine z_putB dX9_undo_21 zc9 (by decide) wf_X9_285 (Or.inl rfl) rfl rfl hf fun h4 hf => ?_
    refine z_aload_n 0 dX9_undo_24 rfl rfl ?_
    refine z_getA dX9_undo_25 zc9 (by decide) wf_X9_25 hf fun x5 hf => ?_
    refine z_aload_n 0 dX9_undo_28 rfl rfl ?_
    refine z_getI dX9_undo_29 zc9 (by decide) wf_X9_285 hf fun x6 hf => ?_
    refine z_aaload dX9_undo_32 hf fun x7 hf => ?_
    refine z_aload_n 0 dX9_undo_33 rfl rfl ?_
    refine z_getA dX9_undo_34 zc9 (by decide) wf_X9_17 hf fun x8 hf => ?_
    refine z_cS_v (d' := d - 1) (As := [.ref x7, .ref x8]) (rest := []) dX9_undo_37 lk_X9_197 hf (fun w1 e1 => zc_X9_copy (by omega) e1) (by omega) rfl rfl (Nat.le_of_ble_eq_true rfl) fun y9 hf => ?_
    refine z_aload_n 0 dX9_undo_40 rfl rfl ?_
    refine z_getI dX9_undo_41 zc9 (by decide) wf_X9_285 hf fun x10 hf => ?_
    exact z_iret dX9_undo_44 rfl (by cases hf; rfl)
set_option maxRecDepth 4000 in
theorem zl_X8_withPlayer_6 {Γ : zG} {N d : Nat} {h0 : zH} (hd : 15 ≤ d) {v0 : Nat} {v3 : Int32} {k1 : Int64 → zH → Option ((Int64 ⊕ Nat) × zH)} {w : (Int64 ⊕ Nat) × zH}  (hk1 : ∀ (v4 : Int64) (h : zH), k1 v4 h = some w → Z Γ m_X8_withPlayer d h0 (zoTJ w) 35 [(0, .ref v0), (3, .int v3), (4, .long v4)] [] h) : ∀ (n : Nat) (v4 : Int64) (v6 : Int32) (h : zH), f_X8_withPlayer_l6 N v0 v3 k1 n v4 v6 h = some w → Z Γ m_X8_withPlayer d h0 (zoTJ w) 6 [(0, .ref v0), (3, .int v3), (4, .long v4), (6, .int v6)] [] h := by
  intro n
  induction n with
  | zero => intro v4 v6 h hf; cases hf
  | succ n ih =>
    intro v4 v6 h hf
    rw [f_X8_withPlayer_l6] at hf
    refine z_iload 3 dX8_withPlayer_6 rfl ?_
    refine z_iconst (2 : Int32) dX8_withPlayer_8 (by decide) ?_
    refine z_icmp_gt 35 dX8_withPlayer_9 (by decide) hf (fun hf => ?_) (fun hf => ?_)
    · exact Z.sub [0, 1, 2] rfl (hk1 v4 h hf)
    · refine z_ldc2 (31 : Int64) dX8_withPlayer_12 wk_X8_232 ?_
      refine z_lload 2 dX8_withPlayer_15 rfl ?_
      refine z_lmul dX8_withPlayer_17 ?_
      refine z_aload_n 0 dX8_withPlayer_18 rfl rfl ?_
      refine z_iload_n 1 dX8_withPlayer_19 rfl rfl ?_
      refine z_iload 3 dX8_withPlayer_20 rfl ?_
      refine z_cV_ti (d' := d - 1) (As := [.int v3, .int v6]) (rest := [.long ((31 : Int64) * v4)]) dX8_withPlayer_22 lk_X8_247 rfl hf (fun w1 e1 => zc_X8_player (by omega) e1) (by omega) rfl rfl (Nat.le_of_ble_eq_true rfl) (fun y1 x2 hf => ?_) (fun y1 k3 hf => ?_)
      · refine z_i2l dX8_withPlayer_25 ?_
        refine z_ladd dX8_withPlayer_26 ?_
        refine z_lstore [(4, .long (((31 : Int64) * v4) + x2.toInt64)), (0, .ref v0), (3, .int v3), (6, .int v6)] dX8_withPlayer_27 (by decide) rfl ?_
        refine z_iinc (v6 + (1 : Int32)) 3 [(6, .int (v6 + (1 : Int32))), (4, .long (((31 : Int64) * v4) + x2.toInt64)), (0, .ref v0), (3, .int v3)] dX8_withPlayer_29 rfl rfl (by decide) rfl ?_
        refine z_goto 6 dX8_withPlayer_32 (by decide) ?_
        exact Z.sub [2, 3, 1, 0] rfl (ih (((31 : Int64) * v4) + x2.toInt64) (v6 + (1 : Int32)) y1.2 hf)
      · exact zx_out rfl (by cases hf; rfl)
set_option maxRecDepth 4000 in
theorem zl_X8_withPlayer_56 {Γ : zG} {N d : Nat} {h0 : zH} (hd : 15 ≤ d) {v0 : Nat} {v3 : Int32} {v6 : Int32} {v7 : Int32} {k1 : Int64 → zH → Option ((Int64 ⊕ Nat) × zH)} {w : (Int64 ⊕ Nat) × zH}  (hk1 : ∀ (v4 : Int64) (h : zH), k1 v4 h = some w → Z Γ m_X8_withPlayer d h0 (zoTJ w) 87 [(0, .ref v0), (3, .int v3), (4, .long v4), (6, .int v6), (7, .int v7)] [] h) : ∀ (n : Nat) (v4 : Int64) (v8 : Int32) (h : zH), f_X8_withPlayer_l56 N v0 v3 v6 v7 k1 n v4 v8 h = some w → Z Γ m_X8_withPlayer d h0 (zoTJ w) 56 [(0, .ref v0), (3, .int v3), (4, .long v4), (6, .int v6), (7, .int v7), (8, .int v8)] [] h := by
  intro n
  induction n with
  | zero => intro v4 v8 h hf; cases hf
  | succ n ih =>
    intro v4 v8 h hf
    rw [f_X8_withPlayer_l56] at hf
    refine z_iload 5 dX8_withPlayer_56 rfl ?_
    refine z_iconst (2 : Int32) dX8_withPlayer_58 (by decide) ?_
    refine z_icmp_gt 87 dX8_withPlayer_59 (by decide) hf (fun hf => ?_) (fun hf => ?_)
    · exact Z.sub [0, 1, 2, 3, 4] rfl (hk1 v4 h hf)
    · refine z_ldc2 (31 : Int64) dX8_withPlayer_62 wk_X8_232 ?_
      refine z_lload 2 dX8_withPlayer_65 rfl ?_
      refine z_lmul dX8_withPlayer_67 ?_
      refine z_aload_n 0 dX8_withPlayer_68 rfl rfl ?_
      refine z_iload_n 1 dX8_withPlayer_69 rfl rfl ?_
      refine z_iload 4 dX8_withPlayer_70 rfl ?_
      refine z_iload 5 dX8_withPlayer_72 rfl ?_
      refine z_cV_ti (d' := d - 1) (As := [.int v3, .int v7, .int v8]) (rest := [.long ((31 : Int64) * v4)]) dX8_withPlayer_74 lk_X8_250 rfl hf (fun w1 e1 => zc_X8_card (by omega) e1) (by omega) rfl rfl (Nat.le_of_ble_eq_true rfl) (fun y9 x10 hf => ?_) (fun y9 k11 hf => ?_)
      · refine z_i2l dX8_withPlayer_77 ?_
        refine z_ladd dX8_withPlayer_78 ?_
        refine z_lstore [(4, .long (((31 : Int64) * v4) + x10.toInt64)), (0, .ref v0), (3, .int v3), (6, .int v6), (7, .int v7), (8, .int v8)] dX8_withPlayer_79 (by decide) rfl ?_
        refine z_iinc (v8 + (1 : Int32)) 5 [(8, .int (v8 + (1 : Int32))), (4, .long (((31 : Int64) * v4) + x10.toInt64)), (0, .ref v0), (3, .int v3), (6, .int v6), (7, .int v7)] dX8_withPlayer_81 rfl rfl (by decide) rfl ?_
        refine z_goto 56 dX8_withPlayer_84 (by decide) ?_
        exact Z.sub [2, 3, 1, 4, 5, 0] rfl (ih (((31 : Int64) * v4) + x10.toInt64) (v8 + (1 : Int32)) y9.2 hf)
      · exact zx_out rfl (by cases hf; rfl)
set_option maxRecDepth 4000 in
theorem zl_X8_withPlayer_46 {Γ : zG} {N d : Nat} {h0 : zH} (hd : 15 ≤ d) {v0 : Nat} {v3 : Int32} {v6 : Int32}  {w : (Int64 ⊕ Nat) × zH}   : ∀ (n : Nat) (v4 : Int64) (v7 : Int32) (h : zH), f_X8_withPlayer_l46 N v0 v3 v6 n v4 v7 h = some w → Z Γ m_X8_withPlayer d h0 (zoTJ w) 46 [(0, .ref v0), (3, .int v3), (4, .long v4), (6, .int v6), (7, .int v7)] [] h := by
  intro n
  induction n with
  | zero => intro v4 v7 h hf; cases hf
  | succ n ih =>
    intro v4 v7 h hf
    rw [f_X8_withPlayer_l46] at hf
    refine z_iload 4 dX8_withPlayer_46 rfl ?_
    refine z_iload 3 dX8_withPlayer_48 rfl ?_
    refine z_icmp_ge 93 dX8_withPlayer_50 (by decide) hf (fun hf => ?_) (fun hf => ?_)
    · refine z_lload 2 dX8_withPlayer_93 rfl ?_
      exact z_lret dX8_withPlayer_95 rfl (by cases hf; rfl)
    · refine z_iconst (0 : Int32) dX8_withPlayer_53 (by decide) ?_
      refine z_istore [(8, .int (0 : Int32)), (0, .ref v0), (3, .int v3), (4, .long v4), (6, .int v6), (7, .int v7)] dX8_withPlayer_54 (by decide) rfl ?_
      refine Z.sub [1, 2, 3, 4, 5, 0] rfl (zl_X8_withPlayer_56 hd (fun u12 h13 hf => ?_) N v4 (0 : Int32) h hf)
      · refine z_iinc (v7 + (1 : Int32)) 4 [(7, .int (v7 + (1 : Int32))), (0, .ref v0), (3, .int v3), (4, .long u12), (6, .int v6)] dX8_withPlayer_87 rfl rfl (by decide) rfl ?_
        refine z_goto 46 dX8_withPlayer_90 (by decide) ?_
        exact Z.sub [1, 2, 3, 4, 0] rfl (ih u12 (v7 + (1 : Int32)) h13 hf)
set_option maxRecDepth 4000 in
theorem zc_X8_withPlayer {Γ : zG} {N d : Nat} (hd : 15 ≤ d) {a : Nat} {p1 : Int64} {p2 : Int32} {h : zH} {w : (Int64 ⊕ Nat) × zH} (hf : f_X8_withPlayer N a p1 p2 h = some w) : Zm Γ m_X8_withPlayer d [.ref a, .long p1, .int p2] h (zoTJ w) := by
  unfold f_X8_withPlayer at hf
  refine z_meth rfl (plainFor_of_name wpl_X8) (by simp [lg_sl, Value.category, zml, m_X8_withPlayer]) ?_
  refine z_lload_n 1 dX8_withPlayer_0 rfl rfl ?_
  refine z_lstore [(4, .long p1), (0, .ref a), (1, .long p1), (3, .int p2)] dX8_withPlayer_1 (by decide) rfl ?_
  refine z_iconst (0 : Int32) dX8_withPlayer_3 (by decide) ?_
  refine z_istore [(6, .int (0 : Int32)), (4, .long p1), (0, .ref a), (1, .long p1), (3, .int p2)] dX8_withPlayer_4 (by decide) rfl ?_
  refine Z.sub [2, 4, 1, 0] rfl (zl_X8_withPlayer_6 hd (fun u4 h5 hf => ?_) N p1 (0 : Int32) h hf)
  · refine z_aload_n 0 dX8_withPlayer_35 rfl rfl ?_
    refine z_iload_n 1 dX8_withPlayer_36 rfl rfl ?_
    refine z_iconst (1 : Int32) dX8_withPlayer_37 (by decide) ?_
    refine z_cV_ti (d' := d - 1) (As := [.int p2, .int (1 : Int32)]) (rest := []) dX8_withPlayer_38 lk_X8_247 rfl hf (fun w1 e1 => zc_X8_player (by omega) e1) (by omega) rfl rfl (Nat.le_of_ble_eq_true rfl) (fun y6 x7 hf => ?_) (fun y6 k8 hf => ?_)
    · refine z_istore [(6, .int x7), (0, .ref a), (3, .int p2), (4, .long u4)] dX8_withPlayer_41 (by decide) rfl ?_
      refine z_iconst (0 : Int32) dX8_withPlayer_43 (by decide) ?_
      refine z_istore [(7, .int (0 : Int32)), (6, .int x7), (0, .ref a), (3, .int p2), (4, .long u4)] dX8_withPlayer_44 (by decide) rfl ?_
      refine Z.sub [2, 3, 4, 1, 0] rfl (zl_X8_withPlayer_46 hd  N u4 (0 : Int32) y6.2 hf)
    · exact zx_out rfl (by cases hf; rfl)

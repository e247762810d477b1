set_option maxRecDepth 4000 in
theorem zc_J9_min_7cf53 {Γ : zG} {N d : Nat} (hd : 10 ≤ d) {p1 : Int32} {p2 : Int32} {h : zH} {w : Int32 × zH} (hf : f_J9_min_7cf53 N p1 p2 h = some w) : Zm Γ m_J9_min_7cf53 d [.int p1, .int p2] h (zoI w) := by
  unfold f_J9_min_7cf53 at hf
  refine z_meth rfl (by decide +kernel) (by simp [lg_sl, Value.category, zml, m_J9_min_7cf53]) ?_
  refine z_iload_n 0 dJ9_min_7cf53_0 rfl rfl ?_
  refine z_iload_n 1 dJ9_min_7cf53_1 rfl rfl ?_
  refine z_icmp_gt 9 dJ9_min_7cf53_2 (by decide) hf (fun hf => ?_) (fun hf => ?_)
  · refine z_iload_n 1 dJ9_min_7cf53_9 rfl rfl ?_
    exact z_iret dJ9_min_7cf53_10 rfl (by cases hf; rfl)
  · refine z_iload_n 0 dJ9_min_7cf53_5 rfl rfl ?_
    refine z_goto 10 dJ9_min_7cf53_6 (by decide) ?_
    exact z_iret dJ9_min_7cf53_10 rfl (by cases hf; rfl)
set_option maxRecDepth 4000 in
theorem zc_X7_isDigit {Γ : zG} {N d : Nat} (hd : 10 ≤ d) {p1 : Int32} {h : zH} {w : Int32 × zH} (hf : f_X7_isDigit N p1 h = some w) : Zm Γ m_X7_isDigit d [.int p1] h (zoI w) := by
  unfold f_X7_isDigit at hf
  refine z_meth rfl (plainFor_of_name wpl_X7) (by simp [lg_sl, Value.category, zml, m_X7_isDigit]) ?_
  refine z_iload_n 0 dX7_isDigit_0 rfl rfl ?_
  refine z_bipush (48 : Int32) dX7_isDigit_1 (by decide) ?_
  refine z_icmp_lt 16 dX7_isDigit_3 (by decide) hf (fun hf => ?_) (fun hf => ?_)
  · refine z_iconst (0 : Int32) dX7_isDigit_16 (by decide) ?_
    exact z_zret dX7_isDigit_17 rfl (Or.inl rfl) (by cases hf; rfl)
  · refine z_iload_n 0 dX7_isDigit_6 rfl rfl ?_
    refine z_bipush (57 : Int32) dX7_isDigit_7 (by decide) ?_
    refine z_icmp_gt 16 dX7_isDigit_9 (by decide) hf (fun hf => ?_) (fun hf => ?_)
    · refine z_iconst (0 : Int32) dX7_isDigit_16 (by decide) ?_
      exact z_zret dX7_isDigit_17 rfl (Or.inl rfl) (by cases hf; rfl)
    · refine z_iconst (1 : Int32) dX7_isDigit_12 (by decide) ?_
      refine z_goto 17 dX7_isDigit_13 (by decide) ?_
      exact z_zret dX7_isDigit_17 rfl (Or.inr rfl) (by cases hf; rfl)
set_option maxRecDepth 4000 in
theorem zc_X7_isLetter {Γ : zG} {N d : Nat} (hd : 10 ≤ d) {p1 : Int32} {h : zH} {w : Int32 × zH} (hf : f_X7_isLetter N p1 h = some w) : Zm Γ m_X7_isLetter d [.int p1] h (zoI w) := by
  unfold f_X7_isLetter at hf
  refine z_meth rfl (plainFor_of_name wpl_X7) (by simp [lg_sl, Value.category, zml, m_X7_isLetter]) ?_
  refine z_iload_n 0 dX7_isLetter_0 rfl rfl ?_
  refine z_bipush (97 : Int32) dX7_isLetter_1 (by decide) ?_
  refine z_icmp_lt 16 dX7_isLetter_3 (by decide) hf (fun hf => ?_) (fun hf => ?_)
  · refine z_iconst (0 : Int32) dX7_isLetter_16 (by decide) ?_
    exact z_zret dX7_isLetter_17 rfl (Or.inl rfl) (by cases hf; rfl)
  · refine z_iload_n 0 dX7_isLetter_6 rfl rfl ?_
    refine z_bipush (122 : Int32) dX7_isLetter_7 (by decide) ?_
    refine z_icmp_gt 16 dX7_isLetter_9 (by decide) hf (fun hf => ?_) (fun hf => ?_)
    · refine z_iconst (0 : Int32) dX7_isLetter_16 (by decide) ?_
      exact z_zret dX7_isLetter_17 rfl (Or.inl rfl) (by cases hf; rfl)
    · refine z_iconst (1 : Int32) dX7_isLetter_12 (by decide) ?_
      refine z_goto 17 dX7_isLetter_13 (by decide) ?_
      exact z_zret dX7_isLetter_17 rfl (Or.inr rfl) (by cases hf; rfl)
set_option maxRecDepth 4000 in
theorem zl_X7_advance_5 {Γ : zG} {N d : Nat} {h0 : zH} (hd : 11 ≤ d) {v0 : Nat} {k1 : Int32 → zH → Option (zH)} {w : zH}  (hk1 : ∀ (v1 : Int32) (h : zH), k1 v1 h = some w → Z Γ m_X7_advance d h0 (zoV w) 37 [(0, .ref v0), (1, .int v1)] [] h) : ∀ (n : Nat) (v1 : Int32) (h : zH), f_X7_advance_l5 N v0 k1 n v1 h = some w → Z Γ m_X7_advance d h0 (zoV w) 5 [(0, .ref v0), (1, .int v1)] [] h := by
  intro n
  induction n with
  | zero => intro v1 h hf; cases hf
  | succ n ih =>
    intro v1 h hf
    rw [f_X7_advance_l5] at hf
    refine z_iload_n 1 dX7_advance_5 rfl rfl ?_
    refine z_aload_n 0 dX7_advance_6 rfl rfl ?_
    refine z_getI dX7_advance_7 zc7 (by decide) wf_X7_56 hf fun x2 hf => ?_
    refine z_icmp_ge 37 dX7_advance_10 (by decide) hf (fun hf => ?_) (fun hf => ?_)
    · exact Z.sub [0, 1] rfl (hk1 v1 h hf)
    · refine z_iload_n 1 dX7_advance_13 rfl rfl ?_
      refine z_sipush (700 : Int32) dX7_advance_14 (by decide) ?_
      refine z_icmp_ge 37 dX7_advance_17 (by decide) hf (fun hf => ?_) (fun hf => ?_)
      · exact Z.sub [0, 1] rfl (hk1 v1 h hf)
      · refine z_aload_n 0 dX7_advance_20 rfl rfl ?_
        refine z_getA dX7_advance_21 zc7 (by decide) wf_X7_15 hf fun x3 hf => ?_
        refine z_iload_n 1 dX7_advance_24 rfl rfl ?_
        refine z_iaload dX7_advance_25 hf fun x4 hf => ?_
        refine z_bipush (32 : Int32) dX7_advance_26 (by decide) ?_
        refine z_icmp_ne 37 dX7_advance_28 (by decide) hf (fun hf => ?_) (fun hf => ?_)
        · refine z_iinc (v1 + (1 : Int32)) 1 [(1, .int (v1 + (1 : Int32))), (0, .ref v0)] dX7_advance_31 rfl rfl (by decide) rfl ?_
          refine z_goto 5 dX7_advance_34 (by decide) ?_
          exact Z.sub [1, 0] rfl (ih (v1 + (1 : Int32)) h hf)
        · exact Z.sub [0, 1] rfl (hk1 v1 h hf)
set_option maxRecDepth 4000 in
theorem zj_X7_advance_67 {Γ : zG} {N d : Nat} {h0 : zH} (hd : 11 ≤ d) {v0 : Nat} {v1 : Int32}  {h : zH} {w : zH} (hf : f_X7_advance_j67 N v0 v1  h = some w) : Z Γ m_X7_advance d h0 (zoV w) 67 [(0, .ref v0), (1, .int v1)] [] h := by
  unfold f_X7_advance_j67 at hf
  refine z_aload_n 0 dX7_advance_67 rfl rfl ?_
  refine z_iload_n 1 dX7_advance_68 rfl rfl ?_
  refine z_putB dX7_advance_69 zc7 (by decide) wf_X7_59 (Or.inl rfl) rfl rfl hf fun h11 hf => ?_
  exact z_vret dX7_advance_72 rfl (by cases hf; rfl)
set_option maxRecDepth 4000 in
theorem zl_X7_advance_140 {Γ : zG} {N d : Nat} {h0 : zH} (hd : 11 ≤ d) {v0 : Nat} {v2 : Int32} {k1 : Int32 → zH → Option (zH)} {w : zH}  (hk1 : ∀ (v1 : Int32) (h : zH), k1 v1 h = some w → Z Γ m_X7_advance d h0 (zoV w) 226 [(0, .ref v0), (1, .int v1)] [] h) : ∀ (n : Nat) (v1 : Int32) (h : zH), f_X7_advance_l140 N v0 v2 k1 n v1 h = some w → Z Γ m_X7_advance d h0 (zoV w) 140 [(0, .ref v0), (1, .int v1), (2, .int v2)] [] h := by
  intro n
  induction n with
  | zero => intro v1 h hf; cases hf
  | succ n ih =>
    intro v1 h hf
    rw [f_X7_advance_l140] at hf
    refine z_iload_n 1 dX7_advance_140 rfl rfl ?_
    refine z_aload_n 0 dX7_advance_141 rfl rfl ?_
    refine z_getI dX7_advance_142 zc7 (by decide) wf_X7_56 hf fun x21 hf => ?_
    refine z_icmp_ge 226 dX7_advance_145 (by decide) hf (fun hf => ?_) (fun hf => ?_)
    · exact Z.sub [0, 1] rfl (hk1 v1 h hf)
    · refine z_iload_n 1 dX7_advance_148 rfl rfl ?_
      refine z_sipush (700 : Int32) dX7_advance_149 (by decide) ?_
      refine z_icmp_ge 226 dX7_advance_152 (by decide) hf (fun hf => ?_) (fun hf => ?_)
      · exact Z.sub [0, 1] rfl (hk1 v1 h hf)
      · refine z_iload_n 2 dX7_advance_155 rfl rfl ?_
        refine zjn_elim (P := fun (j186 : Int32 → zH → Option (zH)) => ∀ (v1 : Int32) (h : zH), j186 v1 h = some w → Z Γ m_X7_advance d h0 (zoV w) 186 [(0, .ref v0), (1, .int v1), (2, .int v2)] [] h) hf (fun v1 h hf => ?_) (fun j186 hj186 hf => ?_)
        · refine z_aload_n 0 dX7_advance_186 rfl rfl ?_
          refine z_iload_n 2 dX7_advance_187 rfl rfl ?_
          refine zjn_elim (P := fun (j217 : Int32 → Nat → Int32 → zH → Option (zH)) => ∀ (v1 : Int32) (s0 : Nat) (s1 : Int32) (h : zH), j217 v1 s0 s1 h = some w → Z Γ m_X7_advance d h0 (zoV w) 217 [(0, .ref v0), (1, .int v1), (2, .int v2)] [.int s1, .ref s0] h) hf (fun v1 s0 s1 h hf => ?_) (fun j217 hj217 hf => ?_)
          · refine z_putB dX7_advance_217 zc7 (by decide) wf_X7_88 (Or.inl rfl) rfl rfl hf fun h32 hf => ?_
            refine z_iinc (v1 + (1 : Int32)) 1 [(1, .int (v1 + (1 : Int32))), (0, .ref v0), (2, .int v2)] dX7_advance_220 rfl rfl (by decide) rfl ?_
            refine z_goto 140 dX7_advance_223 (by decide) ?_
            exact Z.sub [1, 0, 2] rfl (ih (v1 + (1 : Int32)) h32 hf)
          · refine z_if_eq 216 dX7_advance_188 (by decide) hf (fun hf => ?_) (fun hf => ?_)
            · refine z_iconst (0 : Int32) dX7_advance_216 (by decide) ?_
              exact Z.sub [0, 1, 2] rfl (hj217 v1 v0 (0 : Int32) h hf)
            · refine z_ldc (1000000 : Int32) dX7_advance_191 wk_X7_98 ?_
              refine z_aload_n 0 dX7_advance_193 rfl rfl ?_
              refine z_getI dX7_advance_194 zc7 (by decide) wf_X7_88 hf fun x28 hf => ?_
              refine z_bipush (10 : Int32) dX7_advance_197 (by decide) ?_
              refine z_imul dX7_advance_199 ?_
              refine z_aload_n 0 dX7_advance_200 rfl rfl ?_
              refine z_getA dX7_advance_201 zc7 (by decide) wf_X7_15 hf fun x29 hf => ?_
              refine z_iload_n 1 dX7_advance_204 rfl rfl ?_
              refine z_iaload dX7_advance_205 hf fun x30 hf => ?_
              refine z_iadd dX7_advance_206 ?_
              refine z_bipush (48 : Int32) dX7_advance_207 (by decide) ?_
              refine z_isub dX7_advance_209 ?_
              refine z_cS_i (d' := d - 1) (As := [.int (1000000 : Int32), .int (((x28 * (10 : Int32)) + x30) - (48 : Int32))]) (rest := [.ref v0]) dX7_advance_210 lk_X7_47 hf (fun w1 e1 => zc_J9_min_7cf53 (by omega) e1) (by omega) rfl rfl (Nat.le_of_ble_eq_true rfl) fun y31 hf => ?_
              refine z_goto 217 dX7_advance_213 (by decide) ?_
              exact Z.sub [0, 1, 2] rfl (hj217 v1 v0 y31.1 y31.2 hf)
        · refine z_if_eq 174 dX7_advance_156 (by decide) hf (fun hf => ?_) (fun hf => ?_)
          · refine z_aload_n 0 dX7_advance_174 rfl rfl ?_
            refine z_getA dX7_advance_175 zc7 (by decide) wf_X7_15 hf fun x22 hf => ?_
            refine z_iload_n 1 dX7_advance_178 rfl rfl ?_
            refine z_iaload dX7_advance_179 hf fun x23 hf => ?_
            refine z_cS_i (d' := d - 1) (As := [.int x23]) (rest := []) dX7_advance_180 lk_X7_95 hf (fun w1 e1 => zc_X7_isLetter (by omega) e1) (by omega) rfl rfl (Nat.le_of_ble_eq_true rfl) fun y24 hf => ?_
            refine z_if_eq 226 dX7_advance_183 (by decide) hf (fun hf => ?_) (fun hf => ?_)
            · exact Z.sub [0, 1] rfl (hk1 v1 y24.2 hf)
            · exact Z.sub [0, 1, 2] rfl (hj186 v1 y24.2 hf)
          · refine z_aload_n 0 dX7_advance_159 rfl rfl ?_
            refine z_getA dX7_advance_160 zc7 (by decide) wf_X7_15 hf fun x25 hf => ?_
            refine z_iload_n 1 dX7_advance_163 rfl rfl ?_
            refine z_iaload dX7_advance_164 hf fun x26 hf => ?_
            refine z_cS_i (d' := d - 1) (As := [.int x26]) (rest := []) dX7_advance_165 lk_X7_91 hf (fun w1 e1 => zc_X7_isDigit (by omega) e1) (by omega) rfl rfl (Nat.le_of_ble_eq_true rfl) fun y27 hf => ?_
            refine z_if_eq 226 dX7_advance_168 (by decide) hf (fun hf => ?_) (fun hf => ?_)
            · exact Z.sub [0, 1] rfl (hk1 v1 y27.2 hf)
            · refine z_goto 186 dX7_advance_171 (by decide) ?_
              exact Z.sub [0, 1, 2] rfl (hj186 v1 y27.2 hf)
set_option maxRecDepth 4000 in
theorem zj_X7_advance_139 {Γ : zG} {N d : Nat} {h0 : zH} (hd : 11 ≤ d) {v0 : Nat} {v1 : Int32} {s0 : Int32} {h : zH} {w : zH} (hf : f_X7_advance_j139 N v0 v1 s0 h = some w) : Z Γ m_X7_advance d h0 (zoV w) 139 [(0, .ref v0), (1, .int v1)] [.int s0] h := by
  unfold f_X7_advance_j139 at hf
  refine z_istore_n [(2, .int s0), (0, .ref v0), (1, .int v1)] dX7_advance_139 rfl (by decide) rfl ?_
  refine Z.sub [1, 2, 0] rfl (zl_X7_advance_140 hd (fun u33 h34 hf => ?_) N v1 h hf)
  · refine z_aload_n 0 dX7_advance_226 rfl rfl ?_
    refine z_iload_n 1 dX7_advance_227 rfl rfl ?_
    refine z_putB dX7_advance_228 zc7 (by decide) wf_X7_59 (Or.inl rfl) rfl rfl hf fun h35 hf => ?_
    exact z_vret dX7_advance_231 rfl (by cases hf; rfl)
set_option maxRecDepth 4000 in
theorem zj_X7_advance_107 {Γ : zG} {N d : Nat} {h0 : zH} (hd : 11 ≤ d) {v0 : Nat} {v1 : Int32} {s0 : Nat} {s1 : Int32} {h : zH} {w : zH} (hf : f_X7_advance_j107 N v0 v1 s0 s1 h = some w) : Z Γ m_X7_advance d h0 (zoV w) 107 [(0, .ref v0), (1, .int v1)] [.int s1, .ref s0] h := by
  unfold f_X7_advance_j107 at hf
  refine z_putB dX7_advance_107 zc7 (by decide) wf_X7_79 (Or.inl rfl) rfl rfl hf fun h18 hf => ?_
  refine z_aload_n 0 dX7_advance_110 rfl rfl ?_
  refine z_getI dX7_advance_111 zc7 (by decide) wf_X7_79 hf fun x19 hf => ?_
  refine z_iconst (3 : Int32) dX7_advance_114 (by decide) ?_
  refine z_icmp_ne 126 dX7_advance_115 (by decide) hf (fun hf => ?_) (fun hf => ?_)
  · refine z_aload_n 0 dX7_advance_118 rfl rfl ?_
    refine z_iload_n 1 dX7_advance_119 rfl rfl ?_
    refine z_iconst (1 : Int32) dX7_advance_120 (by decide) ?_
    refine z_iadd dX7_advance_121 ?_
    refine z_putB dX7_advance_122 zc7 (by decide) wf_X7_59 (Or.inl rfl) rfl rfl hf fun h36 hf => ?_
    exact z_vret dX7_advance_125 rfl (by cases hf; rfl)
  · refine z_aload_n 0 dX7_advance_126 rfl rfl ?_
    refine z_getI dX7_advance_127 zc7 (by decide) wf_X7_79 hf fun x20 hf => ?_
    refine z_iconst (1 : Int32) dX7_advance_130 (by decide) ?_
    refine z_icmp_ne 138 dX7_advance_131 (by decide) hf (fun hf => ?_) (fun hf => ?_)
    · refine z_iconst (1 : Int32) dX7_advance_134 (by decide) ?_
      refine z_goto 139 dX7_advance_135 (by decide) ?_
      exact Z.sub [0, 1] rfl (zj_X7_advance_139 hd hf)
    · refine z_iconst (0 : Int32) dX7_advance_138 (by decide) ?_
      exact Z.sub [0, 1] rfl (zj_X7_advance_139 hd hf)
set_option maxRecDepth 4000 in
theorem zc_X7_advance {Γ : zG} {N d : Nat} (hd : 11 ≤ d) {a : Nat} {h : zH} {w : zH} (hf : f_X7_advance N a h = some w) : Zm Γ m_X7_advance d [.ref a] h (zoV w) := by
  unfold f_X7_advance at hf
  refine z_meth rfl (plainFor_of_name wpl_X7) (by simp [lg_sl, Value.category, zml, m_X7_advance]) ?_
  refine z_aload_n 0 dX7_advance_0 rfl rfl ?_
  refine z_getI dX7_advance_1 zc7 (by decide) wf_X7_59 hf fun x1 hf => ?_
  refine z_istore_n [(1, .int x1), (0, .ref a)] dX7_advance_4 rfl (by decide) rfl ?_
  refine Z.sub [1, 0] rfl (zl_X7_advance_5 hd (fun u5 h6 hf => ?_) N x1 h hf)
  · refine z_aload_n 0 dX7_advance_37 rfl rfl ?_
    refine z_iload_n 1 dX7_advance_38 rfl rfl ?_
    refine z_putB dX7_advance_39 zc7 (by decide) wf_X7_85 (Or.inl rfl) rfl rfl hf fun h7 hf => ?_
    refine z_aload_n 0 dX7_advance_42 rfl rfl ?_
    refine z_iconst (0 : Int32) dX7_advance_43 (by decide) ?_
    refine z_putB dX7_advance_44 zc7 (by decide) wf_X7_88 (Or.inl rfl) rfl rfl hf fun h8 hf => ?_
    refine z_aload_n 0 dX7_advance_47 rfl rfl ?_
    refine z_iconst (0 : Int32) dX7_advance_48 (by decide) ?_
    refine z_putB dX7_advance_49 zc7 (by decide) wf_X7_79 (Or.inl rfl) rfl rfl hf fun h9 hf => ?_
    refine z_iload_n 1 dX7_advance_52 rfl rfl ?_
    refine z_aload_n 0 dX7_advance_53 rfl rfl ?_
    refine z_getI dX7_advance_54 zc7 (by decide) wf_X7_56 hf fun x10 hf => ?_
    refine z_icmp_ge 67 dX7_advance_57 (by decide) hf (fun hf => ?_) (fun hf => ?_)
    · exact Z.sub [0, 1] rfl (zj_X7_advance_67 hd hf)
    · refine z_iload_n 1 dX7_advance_60 rfl rfl ?_
      refine z_sipush (700 : Int32) dX7_advance_61 (by decide) ?_
      refine z_icmp_lt 73 dX7_advance_64 (by decide) hf (fun hf => ?_) (fun hf => ?_)
      · refine z_aload_n 0 dX7_advance_73 rfl rfl ?_
        refine z_aload_n 0 dX7_advance_74 rfl rfl ?_
        refine z_getA dX7_advance_75 zc7 (by decide) wf_X7_15 hf fun x12 hf => ?_
        refine z_iload_n 1 dX7_advance_78 rfl rfl ?_
        refine z_iaload dX7_advance_79 hf fun x13 hf => ?_
        refine z_cS_i (d' := d - 1) (As := [.int x13]) (rest := [.ref a]) dX7_advance_80 lk_X7_91 hf (fun w1 e1 => zc_X7_isDigit (by omega) e1) (by omega) rfl rfl (Nat.le_of_ble_eq_true rfl) fun y14 hf => ?_
        refine z_if_eq 90 dX7_advance_83 (by decide) hf (fun hf => ?_) (fun hf => ?_)
        · refine z_aload_n 0 dX7_advance_90 rfl rfl ?_
          refine z_getA dX7_advance_91 zc7 (by decide) wf_X7_15 hf fun x15 hf => ?_
          refine z_iload_n 1 dX7_advance_94 rfl rfl ?_
          refine z_iaload dX7_advance_95 hf fun x16 hf => ?_
          refine z_cS_i (d' := d - 1) (As := [.int x16]) (rest := [.ref a]) dX7_advance_96 lk_X7_95 hf (fun w1 e1 => zc_X7_isLetter (by omega) e1) (by omega) rfl rfl (Nat.le_of_ble_eq_true rfl) fun y17 hf => ?_
          refine z_if_eq 106 dX7_advance_99 (by decide) hf (fun hf => ?_) (fun hf => ?_)
          · refine z_iconst (3 : Int32) dX7_advance_106 (by decide) ?_
            exact Z.sub [0, 1] rfl (zj_X7_advance_107 hd hf)
          · refine z_iconst (2 : Int32) dX7_advance_102 (by decide) ?_
            refine z_goto 107 dX7_advance_103 (by decide) ?_
            exact Z.sub [0, 1] rfl (zj_X7_advance_107 hd hf)
        · refine z_iconst (1 : Int32) dX7_advance_86 (by decide) ?_
          refine z_goto 107 dX7_advance_87 (by decide) ?_
          exact Z.sub [0, 1] rfl (zj_X7_advance_107 hd hf)
      · exact Z.sub [0, 1] rfl (zj_X7_advance_67 hd hf)
set_option maxRecDepth 4000 in
theorem zl_X7_isWord_28 {Γ : zG} {N d : Nat} {h0 : zH} (hd : 21 ≤ d) {v0 : Nat} {v1 : Nat}  {w : Int32 × zH}   : ∀ (n : Nat) (v2 : Int32) (h : zH), f_X7_isWord_l28 N v0 v1 n v2 h = some w → Z Γ m_X7_isWord d h0 (zoI w) 28 [(0, .ref v0), (1, .ref (zKa Γ v1)), (2, .int v2)] [] h := by
  intro n
  induction n with
  | zero => intro v2 h hf; cases hf
  | succ n ih =>
    intro v2 h hf
    rw [f_X7_isWord_l28] at hf
    refine z_iload_n 2 dX7_isWord_28 rfl rfl ?_
    refine z_aload_n 1 dX7_isWord_29 rfl rfl ?_
    refine z_lnS dX7_isWord_30 lk_X7_99 (by omega) (Nat.le_of_ble_eq_true rfl) hf fun x5 hf => ?_
    refine z_icmp_ge 76 dX7_isWord_33 (by decide) hf (fun hf => ?_) (fun hf => ?_)
    · refine z_iconst (1 : Int32) dX7_isWord_76 (by decide) ?_
      exact z_zret dX7_isWord_77 rfl (Or.inr rfl) (by cases hf; rfl)
    · refine z_aload_n 0 dX7_isWord_36 rfl rfl ?_
      refine z_getI dX7_isWord_37 zc7 (by decide) wf_X7_85 hf fun x6 hf => ?_
      refine z_iload_n 2 dX7_isWord_40 rfl rfl ?_
      refine z_iadd dX7_isWord_41 ?_
      refine z_istore_n [(3, .int (x6 + v2)), (0, .ref v0), (1, .ref (zKa Γ v1)), (2, .int v2)] dX7_isWord_42 rfl (by decide) rfl ?_
      refine z_iload_n 0 dX7_isWord_43 rfl rfl ?_
      refine z_if_lt 68 dX7_isWord_44 (by decide) hf (fun hf => ?_) (fun hf => ?_)
      · refine z_iconst (0 : Int32) dX7_isWord_68 (by decide) ?_
        exact z_zret dX7_isWord_69 rfl (Or.inl rfl) (by cases hf; rfl)
      · refine z_iload_n 0 dX7_isWord_47 rfl rfl ?_
        refine z_sipush (700 : Int32) dX7_isWord_48 (by decide) ?_
        refine z_icmp_ge 68 dX7_isWord_51 (by decide) hf (fun hf => ?_) (fun hf => ?_)
        · refine z_iconst (0 : Int32) dX7_isWord_68 (by decide) ?_
          exact z_zret dX7_isWord_69 rfl (Or.inl rfl) (by cases hf; rfl)
        · refine z_aload_n 1 dX7_isWord_54 rfl rfl ?_
          refine z_getA dX7_isWord_55 zc7 (by decide) wf_X7_15 hf fun x7 hf => ?_
          refine z_iload_n 0 dX7_isWord_58 rfl rfl ?_
          refine z_iaload dX7_isWord_59 hf fun x8 hf => ?_
          refine z_aload_n 2 dX7_isWord_60 rfl rfl ?_
          refine z_iload_n 3 dX7_isWord_61 rfl rfl ?_
          refine z_chS dX7_isWord_62 lk_X7_104 (by omega) (Nat.le_of_ble_eq_true rfl) hf fun x9 hf => ?_
          refine z_icmp_eq 70 dX7_isWord_65 (by decide) hf (fun hf => ?_) (fun hf => ?_)
          · refine z_iinc (v2 + (1 : Int32)) 3 [(2, .int (v2 + (1 : Int32))), (3, .int (x6 + v2)), (0, .ref v0), (1, .ref (zKa Γ v1))] dX7_isWord_70 rfl rfl (by decide) rfl ?_
            refine z_goto 28 dX7_isWord_73 (by decide) ?_
            exact Z.sub [2, 3, 0] rfl (ih (v2 + (1 : Int32)) h hf)
          · refine z_iconst (0 : Int32) dX7_isWord_68 (by decide) ?_
            exact z_zret dX7_isWord_69 rfl (Or.inl rfl) (by cases hf; rfl)
set_option maxRecDepth 4000 in
theorem zc_X7_isWord {Γ : zG} {N d : Nat} (hd : 21 ≤ d) {a : Nat} {p1 : Nat} {h : zH} {w : Int32 × zH} (hf : f_X7_isWord N a p1 h = some w) : Zm Γ m_X7_isWord d [.ref a, .ref (zKa Γ p1)] h (zoI w) := by
  unfold f_X7_isWord at hf
  refine z_meth rfl (plainFor_of_name wpl_X7) (by simp [lg_sl, Value.category, zml, m_X7_isWord]) ?_
  refine z_aload_n 0 dX7_isWord_0 rfl rfl ?_
  refine z_getI dX7_isWord_1 zc7 (by decide) wf_X7_79 hf fun x1 hf => ?_
  refine z_iconst (2 : Int32) dX7_isWord_4 (by decide) ?_
  refine z_icmp_ne 24 dX7_isWord_5 (by decide) hf (fun hf => ?_) (fun hf => ?_)
  · refine z_aload_n 0 dX7_isWord_8 rfl rfl ?_
    refine z_getI dX7_isWord_9 zc7 (by decide) wf_X7_59 hf fun x2 hf => ?_
    refine z_aload_n 0 dX7_isWord_12 rfl rfl ?_
    refine z_getI dX7_isWord_13 zc7 (by decide) wf_X7_85 hf fun x3 hf => ?_
    refine z_isub dX7_isWord_16 ?_
    refine z_aload_n 1 dX7_isWord_17 rfl rfl ?_
    refine z_lnS dX7_isWord_18 lk_X7_99 (by omega) (Nat.le_of_ble_eq_true rfl) hf fun x4 hf => ?_
    refine z_icmp_eq 26 dX7_isWord_21 (by decide) hf (fun hf => ?_) (fun hf => ?_)
    · refine z_iconst (0 : Int32) dX7_isWord_26 (by decide) ?_
      refine z_istore_n [(2, .int (0 : Int32)), (0, .ref a), (1, .ref (zKa Γ p1))] dX7_isWord_27 rfl (by decide) rfl ?_
      refine Z.sub [1, 2, 0] rfl (zl_X7_isWord_28 hd  N (0 : Int32) h hf)
    · refine z_iconst (0 : Int32) dX7_isWord_24 (by decide) ?_
      exact z_zret dX7_isWord_25 rfl (Or.inl rfl) (by cases hf; rfl)
  · refine z_iconst (0 : Int32) dX7_isWord_24 (by decide) ?_
    exact z_zret dX7_isWord_25 rfl (Or.inl rfl) (by cases hf; rfl)
set_option maxRecDepth 4000 in
theorem zc_X7_fail {Γ : zG} {N d : Nat} (hd : 10 ≤ d) {a : Nat} {p1 : Int32} {p2 : Int32} {h : zH} {w : Int32 × zH} (hf : f_X7_fail N a p1 p2 h = some w) : Zm Γ m_X7_fail d [.ref a, .int p1, .int p2] h (zoI w) := by
  unfold f_X7_fail at hf
  refine z_meth rfl (plainFor_of_name wpl_X7) (by simp [lg_sl, Value.category, zml, m_X7_fail]) ?_
  refine z_aload_n 0 dX7_fail_0 rfl rfl ?_
  refine z_iload_n 1 dX7_fail_1 rfl rfl ?_
  refine z_putB dX7_fail_2 zc7 (by decide) wf_X7_69 (Or.inl rfl) rfl rfl hf fun h1 hf => ?_
  refine z_aload_n 0 dX7_fail_5 rfl rfl ?_
  refine z_iload_n 2 dX7_fail_6 rfl rfl ?_
  refine z_putB dX7_fail_7 zc7 (by decide) wf_X7_41 (Or.inl rfl) rfl rfl hf fun h2 hf => ?_
  refine z_iconst (0 : Int32) dX7_fail_10 (by decide) ?_
  exact z_zret dX7_fail_11 rfl (Or.inl rfl) (by cases hf; rfl)
set_option maxRecDepth 4000 in
theorem zj_X7_takeNumber_35 {Γ : zG} {N d : Nat} {h0 : zH} (hd : 12 ≤ d) {v0 : Nat}  {h : zH} {w : Int32 × zH} (hf : f_X7_takeNumber_j35 N v0  h = some w) : Z Γ m_X7_takeNumber d h0 (zoI w) 35 [(0, .ref v0)] [] h := by
  unfold f_X7_takeNumber_j35 at hf
  refine z_aload_n 0 dX7_takeNumber_35 rfl rfl ?_
  refine z_bipush (-3 : Int32) dX7_takeNumber_36 (by decide) ?_
  refine z_aload_n 0 dX7_takeNumber_38 rfl rfl ?_
  refine z_getI dX7_takeNumber_39 zc7 (by decide) wf_X7_85 hf fun x3 hf => ?_
  refine z_cV_i (d' := d - 1) (As := [.int (-3 : Int32), .int x3]) (rest := []) dX7_takeNumber_42 lk_X7_112 rfl hf (fun w1 e1 => zc_X7_fail (by omega) e1) (by omega) rfl rfl (Nat.le_of_ble_eq_true rfl) fun y4 hf => ?_
  obtain ⟨x5, hz, hf⟩ := Option.bind_eq_some_iff.mp hf
  obtain ⟨hb, rfl⟩ := zB_of hz
  exact z_zret dX7_takeNumber_45 rfl hb (by cases hf; rfl)
set_option maxRecDepth 4000 in
theorem zc_X7_takeNumber {Γ : zG} {N d : Nat} (hd : 12 ≤ d) {a : Nat} {p1 : Int32} {p2 : Int32} {h : zH} {w : Int32 × zH} (hf : f_X7_takeNumber N a p1 p2 h = some w) : Zm Γ m_X7_takeNumber d [.ref a, .int p1, .int p2] h (zoI w) := by
  unfold f_X7_takeNumber at hf
  refine z_meth rfl (plainFor_of_name wpl_X7) (by simp [lg_sl, Value.category, zml, m_X7_takeNumber]) ?_
  refine z_aload_n 0 dX7_takeNumber_0 rfl rfl ?_
  refine z_getI dX7_takeNumber_1 zc7 (by decide) wf_X7_79 hf fun x1 hf => ?_
  refine z_iconst (1 : Int32) dX7_takeNumber_4 (by decide) ?_
  refine z_icmp_eq 19 dX7_takeNumber_5 (by decide) hf (fun hf => ?_) (fun hf => ?_)
  · refine z_aload_n 0 dX7_takeNumber_19 rfl rfl ?_
    refine z_getI dX7_takeNumber_20 zc7 (by decide) wf_X7_88 hf fun x2 hf => ?_
    refine z_iload_n 1 dX7_takeNumber_23 rfl rfl ?_
    refine z_icmp_lt 35 dX7_takeNumber_24 (by decide) hf (fun hf => ?_) (fun hf => ?_)
    · exact Z.sub [0] rfl (zj_X7_takeNumber_35 hd hf)
    · refine z_aload_n 0 dX7_takeNumber_27 rfl rfl ?_
      refine z_getI dX7_takeNumber_28 zc7 (by decide) wf_X7_88 hf fun x6 hf => ?_
      refine z_iload_n 2 dX7_takeNumber_31 rfl rfl ?_
      refine z_icmp_le 46 dX7_takeNumber_32 (by decide) hf (fun hf => ?_) (fun hf => ?_)
      · refine z_aload_n 0 dX7_takeNumber_46 rfl rfl ?_
        refine z_aload_n 0 dX7_takeNumber_47 rfl rfl ?_
        refine z_getI dX7_takeNumber_48 zc7 (by decide) wf_X7_88 hf fun x7 hf => ?_
        refine z_putB dX7_takeNumber_51 zc7 (by decide) wf_X7_116 (Or.inl rfl) rfl rfl hf fun h8 hf => ?_
        refine z_aload_n 0 dX7_takeNumber_54 rfl rfl ?_
        refine z_cV_v (d' := d - 1) (As := []) (rest := []) dX7_takeNumber_55 lk_X7_72 rfl hf (fun w1 e1 => zc_X7_advance (by omega) e1) (by omega) rfl rfl (Nat.le_of_ble_eq_true rfl) fun y9 hf => ?_
        refine z_iconst (1 : Int32) dX7_takeNumber_58 (by decide) ?_
        exact z_zret dX7_takeNumber_59 rfl (Or.inr rfl) (by cases hf; rfl)
      · exact Z.sub [0] rfl (zj_X7_takeNumber_35 hd hf)
  · refine z_aload_n 0 dX7_takeNumber_8 rfl rfl ?_
    refine z_bipush (-2 : Int32) dX7_takeNumber_9 (by decide) ?_
    refine z_aload_n 0 dX7_takeNumber_11 rfl rfl ?_
    refine z_getI dX7_takeNumber_12 zc7 (by decide) wf_X7_85 hf fun x10 hf => ?_
    refine z_cV_i (d' := d - 1) (As := [.int (-2 : Int32), .int x10]) (rest := []) dX7_takeNumber_15 lk_X7_112 rfl hf (fun w1 e1 => zc_X7_fail (by omega) e1) (by omega) rfl rfl (Nat.le_of_ble_eq_true rfl) fun y11 hf => ?_
    obtain ⟨x12, hz, hf⟩ := Option.bind_eq_some_iff.mp hf
    obtain ⟨hb, rfl⟩ := zB_of hz
    exact z_zret dX7_takeNumber_18 rfl hb (by cases hf; rfl)
set_option maxRecDepth 4000 in
theorem zc_X7_isSign {Γ : zG} {N d : Nat} (hd : 10 ≤ d) {a : Nat} {p1 : Int32} {h : zH} {w : Int32 × zH} (hf : f_X7_isSign N a p1 h = some w) : Zm Γ m_X7_isSign d [.ref a, .int p1] h (zoI w) := by
  unfold f_X7_isSign at hf
  refine z_meth rfl (plainFor_of_name wpl_X7) (by simp [lg_sl, Value.category, zml, m_X7_isSign]) ?_
  refine z_aload_n 0 dX7_isSign_0 rfl rfl ?_
  refine z_getI dX7_isSign_1 zc7 (by decide) wf_X7_79 hf fun x1 hf => ?_
  refine z_iconst (3 : Int32) dX7_isSign_4 (by decide) ?_
  refine z_icmp_ne 42 dX7_isSign_5 (by decide) hf (fun hf => ?_) (fun hf => ?_)
  · refine z_aload_n 0 dX7_isSign_8 rfl rfl ?_
    refine z_getI dX7_isSign_9 zc7 (by decide) wf_X7_85 hf fun x2 hf => ?_
    refine z_if_lt 42 dX7_isSign_12 (by decide) hf (fun hf => ?_) (fun hf => ?_)
    · refine z_iconst (0 : Int32) dX7_isSign_42 (by decide) ?_
      exact z_zret dX7_isSign_43 rfl (Or.inl rfl) (by cases hf; rfl)
    · refine z_aload_n 0 dX7_isSign_15 rfl rfl ?_
      refine z_getI dX7_isSign_16 zc7 (by decide) wf_X7_85 hf fun x3 hf => ?_
      refine z_sipush (700 : Int32) dX7_isSign_19 (by decide) ?_
      refine z_icmp_ge 42 dX7_isSign_22 (by decide) hf (fun hf => ?_) (fun hf => ?_)
      · refine z_iconst (0 : Int32) dX7_isSign_42 (by decide) ?_
        exact z_zret dX7_isSign_43 rfl (Or.inl rfl) (by cases hf; rfl)
      · refine z_aload_n 0 dX7_isSign_25 rfl rfl ?_
        refine z_getA dX7_isSign_26 zc7 (by decide) wf_X7_15 hf fun x4 hf => ?_
        refine z_aload_n 0 dX7_isSign_29 rfl rfl ?_
        refine z_getI dX7_isSign_30 zc7 (by decide) wf_X7_85 hf fun x5 hf => ?_
        refine z_iaload dX7_isSign_33 hf fun x6 hf => ?_
        refine z_iload_n 1 dX7_isSign_34 rfl rfl ?_
        refine z_icmp_ne 42 dX7_isSign_35 (by decide) hf (fun hf => ?_) (fun hf => ?_)
        · refine z_iconst (1 : Int32) dX7_isSign_38 (by decide) ?_
          refine z_goto 43 dX7_isSign_39 (by decide) ?_
          exact z_zret dX7_isSign_43 rfl (Or.inr rfl) (by cases hf; rfl)
        · refine z_iconst (0 : Int32) dX7_isSign_42 (by decide) ?_
          exact z_zret dX7_isSign_43 rfl (Or.inl rfl) (by cases hf; rfl)
  · refine z_iconst (0 : Int32) dX7_isSign_42 (by decide) ?_
    exact z_zret dX7_isSign_43 rfl (Or.inl rfl) (by cases hf; rfl)
set_option maxRecDepth 4000 in
theorem zc_X7_takeSign {Γ : zG} {N d : Nat} (hd : 12 ≤ d) {a : Nat} {p1 : Int32} {h : zH} {w : Int32 × zH} (hf : f_X7_takeSign N a p1 h = some w) : Zm Γ m_X7_takeSign d [.ref a, .int p1] h (zoI w) := by
  unfold f_X7_takeSign at hf
  refine z_meth rfl (plainFor_of_name wpl_X7) (by simp [lg_sl, Value.category, zml, m_X7_takeSign]) ?_
  refine z_aload_n 0 dX7_takeSign_0 rfl rfl ?_
  refine z_iload_n 1 dX7_takeSign_1 rfl rfl ?_
  refine z_cV_i (d' := d - 1) (As := [.int p1]) (rest := []) dX7_takeSign_2 lk_X7_108 rfl hf (fun w1 e1 => zc_X7_isSign (by omega) e1) (by omega) rfl rfl (Nat.le_of_ble_eq_true rfl) fun y1 hf => ?_
  refine z_if_ne 19 dX7_takeSign_5 (by decide) hf (fun hf => ?_) (fun hf => ?_)
  · refine z_aload_n 0 dX7_takeSign_8 rfl rfl ?_
    refine z_bipush (-2 : Int32) dX7_takeSign_9 (by decide) ?_
    refine z_aload_n 0 dX7_takeSign_11 rfl rfl ?_
    refine z_getI dX7_takeSign_12 zc7 (by decide) wf_X7_85 hf fun x3 hf => ?_
    refine z_cV_i (d' := d - 1) (As := [.int (-2 : Int32), .int x3]) (rest := []) dX7_takeSign_15 lk_X7_112 rfl hf (fun w1 e1 => zc_X7_fail (by omega) e1) (by omega) rfl rfl (Nat.le_of_ble_eq_true rfl) fun y4 hf => ?_
    obtain ⟨x5, hz, hf⟩ := Option.bind_eq_some_iff.mp hf
    obtain ⟨hb, rfl⟩ := zB_of hz
    exact z_zret dX7_takeSign_18 rfl hb (by cases hf; rfl)
  · refine z_aload_n 0 dX7_takeSign_19 rfl rfl ?_
    refine z_cV_v (d' := d - 1) (As := []) (rest := []) dX7_takeSign_20 lk_X7_72 rfl hf (fun w1 e1 => zc_X7_advance (by omega) e1) (by omega) rfl rfl (Nat.le_of_ble_eq_true rfl) fun y2 hf => ?_
    refine z_iconst (1 : Int32) dX7_takeSign_23 (by decide) ?_
    exact z_zret dX7_takeSign_24 rfl (Or.inr rfl) (by cases hf; rfl)
set_option maxRecDepth 4000 in
theorem zc_X7_takeGroup {Γ : zG} {N d : Nat} (hd : 22 ≤ d) {a : Nat} {h : zH} {w : Int32 × zH} (hf : f_X7_takeGroup N a h = some w) : Zm Γ m_X7_takeGroup d [.ref a] h (zoI w) := by
  unfold f_X7_takeGroup at hf
  refine z_meth rfl (plainFor_of_name wpl_X7) (by simp [lg_sl, Value.category, zml, m_X7_takeGroup]) ?_
  refine z_aload_n 0 dX7_takeGroup_0 rfl rfl ?_
  refine z_ldcS7 (i := 0) (by decide) rfl rfl dX7_takeGroup_1 ?_
  refine z_cV_i (d' := d - 1) (As := [.ref (zKa Γ 0)]) (rest := []) dX7_takeGroup_3 lk_X7_128 rfl hf (fun w1 e1 => zc_X7_isWord (by omega) e1) (by omega) rfl rfl (Nat.le_of_ble_eq_true rfl) fun y1 hf => ?_
  refine z_if_ne 20 dX7_takeGroup_6 (by decide) hf (fun hf => ?_) (fun hf => ?_)
  · refine z_aload_n 0 dX7_takeGroup_9 rfl rfl ?_
    refine z_bipush (-2 : Int32) dX7_takeGroup_10 (by decide) ?_
    refine z_aload_n 0 dX7_takeGroup_12 rfl rfl ?_
    refine z_getI dX7_takeGroup_13 zc7 (by decide) wf_X7_85 hf fun x9 hf => ?_
    refine z_cV_i (d' := d - 1) (As := [.int (-2 : Int32), .int x9]) (rest := []) dX7_takeGroup_16 lk_X7_112 rfl hf (fun w1 e1 => zc_X7_fail (by omega) e1) (by omega) rfl rfl (Nat.le_of_ble_eq_true rfl) fun y10 hf => ?_
    obtain ⟨x11, hz, hf⟩ := Option.bind_eq_some_iff.mp hf
    obtain ⟨hb, rfl⟩ := zB_of hz
    exact z_zret dX7_takeGroup_19 rfl hb (by cases hf; rfl)
  · refine z_aload_n 0 dX7_takeGroup_20 rfl rfl ?_
    refine z_cV_v (d' := d - 1) (As := []) (rest := []) dX7_takeGroup_21 lk_X7_72 rfl hf (fun w1 e1 => zc_X7_advance (by omega) e1) (by omega) rfl rfl (Nat.le_of_ble_eq_true rfl) fun y2 hf => ?_
    refine z_aload_n 0 dX7_takeGroup_24 rfl rfl ?_
    refine z_iconst (2 : Int32) dX7_takeGroup_25 (by decide) ?_
    refine z_iconst (5 : Int32) dX7_takeGroup_26 (by decide) ?_
    refine z_cV_i (d' := d - 1) (As := [.int (2 : Int32), .int (5 : Int32)]) (rest := []) dX7_takeGroup_27 lk_X7_132 rfl hf (fun w1 e1 => zc_X7_takeNumber (by omega) e1) (by omega) rfl rfl (Nat.le_of_ble_eq_true rfl) fun y3 hf => ?_
    refine z_if_ne 35 dX7_takeGroup_30 (by decide) hf (fun hf => ?_) (fun hf => ?_)
    · refine z_iconst (0 : Int32) dX7_takeGroup_33 (by decide) ?_
      exact z_zret dX7_takeGroup_34 rfl (Or.inl rfl) (by cases hf; rfl)
    · refine z_aload_n 0 dX7_takeGroup_35 rfl rfl ?_
      refine z_getA dX7_takeGroup_36 zc7 (by decide) wf_X7_33 hf fun x4 hf => ?_
      refine z_aload_n 0 dX7_takeGroup_39 rfl rfl ?_
      refine z_getI dX7_takeGroup_40 zc7 (by decide) wf_X7_116 hf fun x5 hf => ?_
      refine z_putB dX7_takeGroup_43 zc0 (by decide) wf_X7_119 (Or.inl rfl) rfl rfl hf fun h6 hf => ?_
      refine z_aload_n 0 dX7_takeGroup_46 rfl rfl ?_
      refine z_bipush (59 : Int32) dX7_takeGroup_47 (by decide) ?_
      refine z_cV_i (d' := d - 1) (As := [.int (59 : Int32)]) (rest := []) dX7_takeGroup_49 lk_X7_135 rfl hf (fun w1 e1 => zc_X7_takeSign (by omega) e1) (by omega) rfl rfl (Nat.le_of_ble_eq_true rfl) fun y7 hf => ?_
      obtain ⟨x8, hz, hf⟩ := Option.bind_eq_some_iff.mp hf
      obtain ⟨hb, rfl⟩ := zB_of hz
      exact z_zret dX7_takeGroup_52 rfl hb (by cases hf; rfl)
set_option maxRecDepth 4000 in
theorem zc_X1_start {Γ : zG} {N d : Nat} (hd : 11 ≤ d) {a : Nat} {p1 : Int32} {h : zH} {w : zH} (hf : f_X1_start N a p1 h = some w) : Zm Γ m_X1_start d [.ref a, .int p1] h (zoV w) := by
  unfold f_X1_start at hf
  refine z_meth rfl (plainFor_of_name wpl_X1) (by simp [lg_sl, Value.category, zml, m_X1_start]) ?_
  refine z_aload_n 0 dX1_start_0 rfl rfl ?_
  refine z_iload_n 1 dX1_start_1 rfl rfl ?_
  refine z_putB dX1_start_2 zc1 (by decide) wf_X1_23 (Or.inl rfl) rfl rfl hf fun h1 hf => ?_
  refine z_aload_n 0 dX1_start_5 rfl rfl ?_
  refine z_iconst (0 : Int32) dX1_start_6 (by decide) ?_
  refine z_putB dX1_start_7 zc1 (by decide) wf_X1_27 (Or.inl rfl) rfl rfl hf fun h2 hf => ?_
  refine z_aload_n 0 dX1_start_10 rfl rfl ?_
  refine z_getA dX1_start_11 zc1 (by decide) wf_X1_14 hf fun x3 hf => ?_
  refine z_cV_v (d' := d - 1) (As := []) (rest := []) dX1_start_14 lk_X1_30 rfl hf (fun w1 e1 => zc_X6_clear (by omega) e1) (by omega) rfl rfl (Nat.le_of_ble_eq_true rfl) fun y4 hf => ?_
  refine z_aload_n 0 dX1_start_17 rfl rfl ?_
  refine z_getA dX1_start_18 zc1 (by decide) wf_X1_20 hf fun x5 hf => ?_
  refine z_cV_v (d' := d - 1) (As := []) (rest := []) dX1_start_21 lk_X1_30 rfl hf (fun w1 e1 => zc_X6_clear (by omega) e1) (by omega) rfl rfl (Nat.le_of_ble_eq_true rfl) fun y6 hf => ?_
  exact z_vret dX1_start_24 rfl (by cases hf; rfl)
set_option maxRecDepth 4000 in
theorem zc_X0_addPlayer {Γ : zG} {N d : Nat} (hd : 12 ≤ d) {a : Nat} {p1 : Int32} {h : zH} {w : zH} (hf : f_X0_addPlayer N a p1 h = some w) : Zm Γ m_X0_addPlayer d [.ref a, .int p1] h (zoV w) := by
  unfold f_X0_addPlayer at hf
  refine z_meth rfl (plainFor_of_name wpl_X0) (by simp [lg_sl, Value.category, zml, m_X0_addPlayer]) ?_
  refine z_aload_n 0 dX0_addPlayer_0 rfl rfl ?_
  refine z_getI dX0_addPlayer_1 zc0 (by decide) wf_X0_56 hf fun x1 hf => ?_
  refine z_if_lt 38 dX0_addPlayer_4 (by decide) hf (fun hf => ?_) (fun hf => ?_)
  · exact z_vret dX0_addPlayer_38 rfl (by cases hf; rfl)
  · refine z_aload_n 0 dX0_addPlayer_7 rfl rfl ?_
    refine z_getI dX0_addPlayer_8 zc0 (by decide) wf_X0_56 hf fun x2 hf => ?_
    refine z_iconst (5 : Int32) dX0_addPlayer_11 (by decide) ?_
    refine z_icmp_ge 38 dX0_addPlayer_12 (by decide) hf (fun hf => ?_) (fun hf => ?_)
    · exact z_vret dX0_addPlayer_38 rfl (by cases hf; rfl)
    · refine z_aload_n 0 dX0_addPlayer_15 rfl rfl ?_
      refine z_getA dX0_addPlayer_16 zc0 (by decide) wf_X0_17 hf fun x3 hf => ?_
      refine z_aload_n 0 dX0_addPlayer_19 rfl rfl ?_
      refine z_getI dX0_addPlayer_20 zc0 (by decide) wf_X0_56 hf fun x4 hf => ?_
      refine z_aaload dX0_addPlayer_23 hf fun x5 hf => ?_
      refine z_iload_n 1 dX0_addPlayer_24 rfl rfl ?_
      refine z_cV_v (d' := d - 1) (As := [.int p1]) (rest := []) dX0_addPlayer_25 lk_X0_87 rfl hf (fun w1 e1 => zc_X1_start (by omega) e1) (by omega) rfl rfl (Nat.le_of_ble_eq_true rfl) fun y6 hf => ?_
      refine z_aload_n 0 dX0_addPlayer_28 rfl rfl ?_
      refine z_dup dX0_addPlayer_29 rfl ?_
      refine z_getI dX0_addPlayer_30 zc0 (by decide) wf_X0_56 hf fun x7 hf => ?_
      refine z_iconst (1 : Int32) dX0_addPlayer_33 (by decide) ?_
      refine z_iadd dX0_addPlayer_34 ?_
      refine z_putB dX0_addPlayer_35 zc0 (by decide) wf_X0_56 (Or.inl rfl) rfl rfl hf fun h8 hf => ?_
      exact z_vret dX0_addPlayer_38 rfl (by cases hf; rfl)
set_option maxRecDepth 4000 in
theorem zc_X7_takePlayer {Γ : zG} {N d : Nat} (hd : 13 ≤ d) {a : Nat} {h : zH} {w : Int32 × zH} (hf : f_X7_takePlayer N a h = some w) : Zm Γ m_X7_takePlayer d [.ref a] h (zoI w) := by
  unfold f_X7_takePlayer at hf
  refine z_meth rfl (plainFor_of_name wpl_X7) (by simp [lg_sl, Value.category, zml, m_X7_takePlayer]) ?_
  refine z_aload_n 0 dX7_takePlayer_0 rfl rfl ?_
  refine z_getA dX7_takePlayer_1 zc7 (by decide) wf_X7_33 hf fun x1 hf => ?_
  refine z_getI dX7_takePlayer_4 zc0 (by decide) wf_X7_158 hf fun x2 hf => ?_
  refine z_iconst (5 : Int32) dX7_takePlayer_7 (by decide) ?_
  refine z_icmp_lt 22 dX7_takePlayer_8 (by decide) hf (fun hf => ?_) (fun hf => ?_)
  · refine z_aload_n 0 dX7_takePlayer_22 rfl rfl ?_
    refine z_cV_v (d' := d - 1) (As := []) (rest := []) dX7_takePlayer_23 lk_X7_72 rfl hf (fun w1 e1 => zc_X7_advance (by omega) e1) (by omega) rfl rfl (Nat.le_of_ble_eq_true rfl) fun y3 hf => ?_
    refine z_aload_n 0 dX7_takePlayer_26 rfl rfl ?_
    refine z_iconst (0 : Int32) dX7_takePlayer_27 (by decide) ?_
    refine z_ldc (99999 : Int32) dX7_takePlayer_28 wk_X7_161 ?_
    refine z_cV_i (d' := d - 1) (As := [.int (0 : Int32), .int (99999 : Int32)]) (rest := []) dX7_takePlayer_30 lk_X7_132 rfl hf (fun w1 e1 => zc_X7_takeNumber (by omega) e1) (by omega) rfl rfl (Nat.le_of_ble_eq_true rfl) fun y4 hf => ?_
    refine z_if_ne 38 dX7_takePlayer_33 (by decide) hf (fun hf => ?_) (fun hf => ?_)
    · refine z_iconst (0 : Int32) dX7_takePlayer_36 (by decide) ?_
      exact z_zret dX7_takePlayer_37 rfl (Or.inl rfl) (by cases hf; rfl)
    · refine z_aload_n 0 dX7_takePlayer_38 rfl rfl ?_
      refine z_getA dX7_takePlayer_39 zc7 (by decide) wf_X7_33 hf fun x5 hf => ?_
      refine z_aload_n 0 dX7_takePlayer_42 rfl rfl ?_
      refine z_getI dX7_takePlayer_43 zc7 (by decide) wf_X7_116 hf fun x6 hf => ?_
      refine z_cV_v (d' := d - 1) (As := [.int x6]) (rest := []) dX7_takePlayer_46 lk_X7_162 rfl hf (fun w1 e1 => zc_X0_addPlayer (by omega) e1) (by omega) rfl rfl (Nat.le_of_ble_eq_true rfl) fun y7 hf => ?_
      refine z_iconst (1 : Int32) dX7_takePlayer_49 (by decide) ?_
      exact z_zret dX7_takePlayer_50 rfl (Or.inr rfl) (by cases hf; rfl)
  · refine z_aload_n 0 dX7_takePlayer_11 rfl rfl ?_
    refine z_bipush (-4 : Int32) dX7_takePlayer_12 (by decide) ?_
    refine z_aload_n 0 dX7_takePlayer_14 rfl rfl ?_
    refine z_getI dX7_takePlayer_15 zc7 (by decide) wf_X7_85 hf fun x8 hf => ?_
    refine z_cV_i (d' := d - 1) (As := [.int (-4 : Int32), .int x8]) (rest := []) dX7_takePlayer_18 lk_X7_112 rfl hf (fun w1 e1 => zc_X7_fail (by omega) e1) (by omega) rfl rfl (Nat.le_of_ble_eq_true rfl) fun y9 hf => ?_
    obtain ⟨x10, hz, hf⟩ := Option.bind_eq_some_iff.mp hf
    obtain ⟨hb, rfl⟩ := zB_of hz
    exact z_zret dX7_takePlayer_21 rfl hb (by cases hf; rfl)
set_option maxRecDepth 4000 in
theorem zc_X0_bidder {Γ : zG} {N d : Nat} (hd : 10 ≤ d) {a : Nat} {p1 : Int32} {h : zH} {w : Option Nat × zH} (hf : f_X0_bidder N a p1 h = some w) : Zm Γ m_X0_bidder d [.ref a, .int p1] h (zoN w) := by
  unfold f_X0_bidder at hf
  refine z_meth rfl (plainFor_of_name wpl_X0) (by simp [lg_sl, Value.category, zml, m_X0_bidder]) ?_
  refine z_iload_n 1 dX0_bidder_0 rfl rfl ?_
  refine z_if_lt 26 dX0_bidder_1 (by decide) hf (fun hf => ?_) (fun hf => ?_)
  · refine z_null dX0_bidder_26 ?_
    exact z_aret dX0_bidder_27 rfl (Or.inl ⟨_, rfl⟩) (Or.inl rfl) (by cases hf; rfl)
  · refine z_iload_n 1 dX0_bidder_4 rfl rfl ?_
    refine z_aload_n 0 dX0_bidder_5 rfl rfl ?_
    refine z_getI dX0_bidder_6 zc0 (by decide) wf_X0_56 hf fun x1 hf => ?_
    refine z_icmp_ge 26 dX0_bidder_9 (by decide) hf (fun hf => ?_) (fun hf => ?_)
    · refine z_null dX0_bidder_26 ?_
      exact z_aret dX0_bidder_27 rfl (Or.inl ⟨_, rfl⟩) (Or.inl rfl) (by cases hf; rfl)
    · refine z_iload_n 1 dX0_bidder_12 rfl rfl ?_
      refine z_iconst (5 : Int32) dX0_bidder_13 (by decide) ?_
      refine z_icmp_ge 26 dX0_bidder_14 (by decide) hf (fun hf => ?_) (fun hf => ?_)
      · refine z_null dX0_bidder_26 ?_
        exact z_aret dX0_bidder_27 rfl (Or.inl ⟨_, rfl⟩) (Or.inl rfl) (by cases hf; rfl)
      · refine z_aload_n 0 dX0_bidder_17 rfl rfl ?_
        refine z_getA dX0_bidder_18 zc0 (by decide) wf_X0_17 hf fun x2 hf => ?_
        refine z_iload_n 1 dX0_bidder_21 rfl rfl ?_
        refine z_aaload dX0_bidder_22 hf fun x3 hf => ?_
        refine z_goto 27 dX0_bidder_23 (by decide) ?_
        exact z_aret dX0_bidder_27 rfl (Or.inl ⟨_, rfl⟩) (Or.inr ⟨_, rfl⟩) (by cases hf; rfl)
set_option maxRecDepth 4000 in
theorem zc_X6_isFull {Γ : zG} {N d : Nat} (hd : 10 ≤ d) {a : Nat} {h : zH} {w : Int32 × zH} (hf : f_X6_isFull N a h = some w) : Zm Γ m_X6_isFull d [.ref a] h (zoI w) := by
  unfold f_X6_isFull at hf
  refine z_meth rfl (plainFor_of_name wpl_X6) (by simp [lg_sl, Value.category, zml, m_X6_isFull]) ?_
  refine z_aload_n 0 dX6_isFull_0 rfl rfl ?_
  refine z_getI dX6_isFull_1 zc6 (by decide) wf_X6_19 hf fun x1 hf => ?_
  refine z_aload_n 0 dX6_isFull_4 rfl rfl ?_
  refine z_getA dX6_isFull_5 zc6 (by decide) wf_X6_13 hf fun x2 hf => ?_
  refine z_alen dX6_isFull_8 hf fun x3 hf => ?_
  refine z_icmp_lt 16 dX6_isFull_9 (by decide) hf (fun hf => ?_) (fun hf => ?_)
  · refine z_iconst (0 : Int32) dX6_isFull_16 (by decide) ?_
    exact z_zret dX6_isFull_17 rfl (Or.inl rfl) (by cases hf; rfl)
  · refine z_iconst (1 : Int32) dX6_isFull_12 (by decide) ?_
    refine z_goto 17 dX6_isFull_13 (by decide) ?_
    exact z_zret dX6_isFull_17 rfl (Or.inr rfl) (by cases hf; rfl)
set_option maxRecDepth 4000 in
theorem zc_X2_longerKey {Γ : zG} {N d : Nat} (hd : 10 ≤ d) {a : Nat} {p1 : Int32} {p2 : Int32} {h : zH} {w : Int32 × zH} (hf : f_X2_longerKey N a p1 p2 h = some w) : Zm Γ m_X2_longerKey d [.ref a, .int p1, .int p2] h (zoI w) := by
  unfold f_X2_longerKey at hf
  refine z_meth rfl (plainFor_of_name wpl_X2) (by simp [lg_sl, Value.category, zml, m_X2_longerKey]) ?_
  refine z_iload_n 1 dX2_longerKey_0 rfl rfl ?_
  refine z_iconst (5 : Int32) dX2_longerKey_1 (by decide) ?_
  refine z_imul dX2_longerKey_2 ?_
  refine z_iconst (5 : Int32) dX2_longerKey_3 (by decide) ?_
  refine z_iadd dX2_longerKey_4 ?_
  refine z_iconst (1 : Int32) dX2_longerKey_5 (by decide) ?_
  refine z_isub dX2_longerKey_6 ?_
  refine z_iload_n 2 dX2_longerKey_7 rfl rfl ?_
  refine z_isub dX2_longerKey_8 ?_
  exact z_iret dX2_longerKey_9 rfl (by cases hf; rfl)
set_option maxRecDepth 4000 in
theorem zc_X2_withKey {Γ : zG} {N d : Nat} (hd : 10 ≤ d) {a : Nat} {p1 : Int32} {h : zH} {w : Int32 × zH} (hf : f_X2_withKey N a p1 h = some w) : Zm Γ m_X2_withKey d [.ref a, .int p1] h (zoI w) := by
  unfold f_X2_withKey at hf
  refine z_meth rfl (plainFor_of_name wpl_X2) (by simp [lg_sl, Value.category, zml, m_X2_withKey]) ?_
  refine z_iload_n 1 dX2_withKey_0 rfl rfl ?_
  refine z_if_lt 20 dX2_withKey_1 (by decide) hf (fun hf => ?_) (fun hf => ?_)
  · refine z_iconst (0 : Int32) dX2_withKey_20 (by decide) ?_
    exact z_iret dX2_withKey_21 rfl (by cases hf; rfl)
  · refine z_iload_n 1 dX2_withKey_4 rfl rfl ?_
    refine z_sipush (625 : Int32) dX2_withKey_5 (by decide) ?_
    refine z_icmp_ge 20 dX2_withKey_8 (by decide) hf (fun hf => ?_) (fun hf => ?_)
    · refine z_iconst (0 : Int32) dX2_withKey_20 (by decide) ?_
      exact z_iret dX2_withKey_21 rfl (by cases hf; rfl)
    · refine z_aload_n 0 dX2_withKey_11 rfl rfl ?_
      refine z_getA dX2_withKey_12 zc2 (by decide) wf_X2_15 hf fun x1 hf => ?_
      refine z_iload_n 1 dX2_withKey_15 rfl rfl ?_
      refine z_iaload dX2_withKey_16 hf fun x2 hf => ?_
      refine z_goto 21 dX2_withKey_17 (by decide) ?_
      exact z_iret dX2_withKey_21 rfl (by cases hf; rfl)
set_option maxRecDepth 4000 in
theorem zl_X2_fromNumber_11 {Γ : zG} {N d : Nat} {h0 : zH} (hd : 11 ≤ d) {v0 : Nat} {v2 : Int32} {k1 : Int32 → Int32 → Int32 → zH → Option (Int32 × zH)} {w : Int32 × zH}  (hk1 : ∀ (v3 : Int32) (v4 : Int32) (v5 : Int32) (h : zH), k1 v3 v4 v5 h = some w → Z Γ m_X2_fromNumber d h0 (zoI w) 87 [(0, .ref v0), (3, .int v3), (4, .int v4), (5, .int v5)] [] h) : ∀ (n : Nat) (v3 : Int32) (v4 : Int32) (v5 : Int32) (v6 : Int32) (h : zH), f_X2_fromNumber_l11 N v0 v2 k1 n v3 v4 v5 v6 h = some w → Z Γ m_X2_fromNumber d h0 (zoI w) 11 [(0, .ref v0), (2, .int v2), (3, .int v3), (4, .int v4), (5, .int v5), (6, .int v6)] [] h := by
  intro n
  induction n with
  | zero => intro v3 v4 v5 v6 h hf; cases hf
  | succ n ih =>
    intro v3 v4 v5 v6 h hf
    rw [f_X2_fromNumber_l11] at hf
    refine z_iload 5 dX2_fromNumber_11 rfl ?_
    refine z_if_lt 87 dX2_fromNumber_13 (by decide) hf (fun hf => ?_) (fun hf => ?_)
    · exact Z.sub [0, 2, 3, 4] rfl (hk1 v3 v4 v5 h hf)
    · refine z_iload 5 dX2_fromNumber_16 rfl ?_
      refine z_istore [(7, .int v6), (0, .ref v0), (2, .int v2), (3, .int v3), (4, .int v4), (5, .int v5), (6, .int v6)] dX2_fromNumber_18 (by decide) rfl ?_
      refine z_iload 6 dX2_fromNumber_20 rfl ?_
      refine z_iload_n 2 dX2_fromNumber_22 rfl rfl ?_
      refine zjn_elim (P := fun (j52 : Int32 → Int32 → Int32 → Int32 → Int32 → zH → Option (Int32 × zH)) => ∀ (v3 : Int32) (v4 : Int32) (v5 : Int32) (v6 : Int32) (v7 : Int32) (h : zH), j52 v3 v4 v5 v6 v7 h = some w → Z Γ m_X2_fromNumber d h0 (zoI w) 52 [(0, .ref v0), (2, .int v2), (3, .int v3), (4, .int v4), (5, .int v5), (6, .int v6), (7, .int v7)] [] h) hf (fun v3 v4 v5 v6 v7 h hf => ?_) (fun j52 hj52 hf => ?_)
      · refine z_iload 3 dX2_fromNumber_52 rfl ?_
        refine z_iconst (1 : Int32) dX2_fromNumber_54 (by decide) ?_
        refine z_iload 6 dX2_fromNumber_55 rfl ?_
        refine z_ishl dX2_fromNumber_57 ?_
        refine z_ior dX2_fromNumber_58 ?_
        refine z_istore [(4, .int (v4 ||| ((1 : Int32) <<< (v7 &&& 31)))), (0, .ref v0), (2, .int v2), (3, .int v3), (5, .int v5), (6, .int v6), (7, .int v7)] dX2_fromNumber_59 (by decide) rfl ?_
        refine z_iload 5 dX2_fromNumber_61 rfl ?_
        refine zjn_elim (P := fun (j79 : Int32 → Int32 → Int32 → Int32 → zH → Option (Int32 × zH)) => ∀ (v3 : Int32) (v4 : Int32) (v6 : Int32) (s0 : Int32) (h : zH), j79 v3 v4 v6 s0 h = some w → Z Γ m_X2_fromNumber d h0 (zoI w) 79 [(0, .ref v0), (2, .int v2), (3, .int v3), (4, .int v4), (6, .int v6)] [.int s0] h) hf (fun v3 v4 v6 s0 h hf => ?_) (fun j79 hj79 hf => ?_)
        · refine z_istore [(5, .int s0), (0, .ref v0), (2, .int v2), (3, .int v3), (4, .int v4), (6, .int v6)] dX2_fromNumber_79 (by decide) rfl ?_
          refine z_iinc (v6 + (-1 : Int32)) 5 [(6, .int (v6 + (-1 : Int32))), (5, .int s0), (0, .ref v0), (2, .int v2), (3, .int v3), (4, .int v4)] dX2_fromNumber_81 rfl rfl (by decide) rfl ?_
          refine z_goto 11 dX2_fromNumber_84 (by decide) ?_
          exact Z.sub [2, 3, 4, 5, 1, 0] rfl (ih v3 v4 s0 (v6 + (-1 : Int32)) h hf)
        · refine z_if_le 77 dX2_fromNumber_63 (by decide) hf (fun hf => ?_) (fun hf => ?_)
          · refine z_iload 4 dX2_fromNumber_77 rfl ?_
            exact Z.sub [1, 2, 3, 0, 5] rfl (hj79 v3 (v4 ||| ((1 : Int32) <<< (v7 &&& 31))) v6 v5 h hf)
          · refine z_aload_n 1 dX2_fromNumber_66 rfl rfl ?_
            refine z_iload 4 dX2_fromNumber_67 rfl ?_
            refine z_iload 6 dX2_fromNumber_69 rfl ?_
            refine z_cV_i (d' := d - 1) (As := [.int v5, .int v7]) (rest := []) dX2_fromNumber_71 lk_X2_28 rfl hf (fun w1 e1 => zc_X2_longerKey (by omega) e1) (by omega) rfl rfl (Nat.le_of_ble_eq_true rfl) fun y3 hf => ?_
            refine z_goto 79 dX2_fromNumber_74 (by decide) ?_
            exact Z.sub [1, 2, 3, 0, 5] rfl (hj79 v3 (v4 ||| ((1 : Int32) <<< (v7 &&& 31))) v6 y3.1 y3.2 hf)
      · refine z_icmp_ge 52 dX2_fromNumber_23 (by decide) hf (fun hf => ?_) (fun hf => ?_)
        · exact Z.sub [1, 2, 3, 4, 5, 6, 0] rfl (hj52 v3 v4 v5 v6 v6 h hf)
        · refine z_iload_n 3 dX2_fromNumber_26 rfl rfl ?_
          refine z_bipush (10 : Int32) dX2_fromNumber_27 (by decide) ?_
          refine z_irem dX2_fromNumber_29 hf fun x1 hf => ?_
          refine z_iconst (1 : Int32) dX2_fromNumber_30 (by decide) ?_
          refine z_isub dX2_fromNumber_31 ?_
          refine z_istore [(7, .int (x1 - (1 : Int32))), (0, .ref v0), (2, .int v2), (3, .int v3), (4, .int v4), (5, .int v5), (6, .int v6)] dX2_fromNumber_32 (by decide) rfl ?_
          refine z_iload_n 3 dX2_fromNumber_34 rfl rfl ?_
          refine z_bipush (10 : Int32) dX2_fromNumber_35 (by decide) ?_
          refine z_idiv dX2_fromNumber_37 hf fun x2 hf => ?_
          refine z_istore_n [(3, .int x2), (7, .int (x1 - (1 : Int32))), (0, .ref v0), (2, .int v2), (4, .int v4), (5, .int v5), (6, .int v6)] dX2_fromNumber_38 rfl (by decide) rfl ?_
          refine z_iload 1 dX2_fromNumber_39 rfl ?_
          refine z_if_lt 50 dX2_fromNumber_41 (by decide) hf (fun hf => ?_) (fun hf => ?_)
          · refine z_iconst (-1 : Int32) dX2_fromNumber_50 (by decide) ?_
            exact z_iret dX2_fromNumber_51 rfl (by cases hf; rfl)
          · refine z_iload 1 dX2_fromNumber_44 rfl ?_
            refine z_iload_n 3 dX2_fromNumber_46 rfl rfl ?_
            refine z_icmp_lt 52 dX2_fromNumber_47 (by decide) hf (fun hf => ?_) (fun hf => ?_)
            · exact Z.sub [2, 3, 0, 4, 5, 6, 1] rfl (hj52 x2 v4 v5 v6 (x1 - (1 : Int32)) h hf)
            · refine z_iconst (-1 : Int32) dX2_fromNumber_50 (by decide) ?_
              exact z_iret dX2_fromNumber_51 rfl (by cases hf; rfl)
set_option maxRecDepth 4000 in
theorem zc_X2_fromNumber {Γ : zG} {N d : Nat} (hd : 11 ≤ d) {a : Nat} {p1 : Int32} {p2 : Int32} {h : zH} {w : Int32 × zH} (hf : f_X2_fromNumber N a p1 p2 h = some w) : Zm Γ m_X2_fromNumber d [.ref a, .int p1, .int p2] h (zoI w) := by
  unfold f_X2_fromNumber at hf
  refine z_meth rfl (plainFor_of_name wpl_X2) (by simp [lg_sl, Value.category, zml, m_X2_fromNumber]) ?_
  refine z_iload_n 1 dX2_fromNumber_0 rfl rfl ?_
  refine z_istore_n [(3, .int p1), (0, .ref a), (1, .int p1), (2, .int p2)] dX2_fromNumber_1 rfl (by decide) rfl ?_
  refine z_iconst (0 : Int32) dX2_fromNumber_2 (by decide) ?_
  refine z_istore [(4, .int (0 : Int32)), (3, .int p1), (0, .ref a), (1, .int p1), (2, .int p2)] dX2_fromNumber_3 (by decide) rfl ?_
  refine z_iconst (0 : Int32) dX2_fromNumber_5 (by decide) ?_
  refine z_istore [(5, .int (0 : Int32)), (4, .int (0 : Int32)), (3, .int p1), (0, .ref a), (1, .int p1), (2, .int p2)] dX2_fromNumber_6 (by decide) rfl ?_
  refine z_iconst (4 : Int32) dX2_fromNumber_8 (by decide) ?_
  refine z_istore [(6, .int (4 : Int32)), (5, .int (0 : Int32)), (4, .int (0 : Int32)), (3, .int p1), (0, .ref a), (1, .int p1), (2, .int p2)] dX2_fromNumber_9 (by decide) rfl ?_
  refine Z.sub [4, 6, 3, 2, 1, 0] rfl (zl_X2_fromNumber_11 hd (fun u4 u5 u6 h7 hf => ?_) N p1 (0 : Int32) (0 : Int32) (4 : Int32) h hf)
  · refine z_iload_n 1 dX2_fromNumber_87 rfl rfl ?_
    refine z_if_ne 100 dX2_fromNumber_88 (by decide) hf (fun hf => ?_) (fun hf => ?_)
    · refine z_iload 2 dX2_fromNumber_91 rfl ?_
      refine z_cS_i (d' := d - 1) (As := [.int u5]) (rest := []) dX2_fromNumber_93 lk_X2_18 hf (fun w1 e1 => zc_J6_bitCount_0f7a4 (by omega) e1) (by omega) rfl rfl (Nat.le_of_ble_eq_true rfl) fun y8 hf => ?_
      refine z_iconst (5 : Int32) dX2_fromNumber_96 (by decide) ?_
      refine z_icmp_eq 102 dX2_fromNumber_97 (by decide) hf (fun hf => ?_) (fun hf => ?_)
      · refine z_aload_n 0 dX2_fromNumber_102 rfl rfl ?_
        refine z_iload 3 dX2_fromNumber_103 rfl ?_
        refine z_cV_i (d' := d - 1) (As := [.int u6]) (rest := []) dX2_fromNumber_105 lk_X2_31 rfl hf (fun w1 e1 => zc_X2_withKey (by omega) e1) (by omega) rfl rfl (Nat.le_of_ble_eq_true rfl) fun y9 hf => ?_
        exact z_iret dX2_fromNumber_108 rfl (by cases hf; rfl)
      · refine z_iconst (-1 : Int32) dX2_fromNumber_100 (by decide) ?_
        exact z_iret dX2_fromNumber_101 rfl (by cases hf; rfl)
    · refine z_iconst (-1 : Int32) dX2_fromNumber_100 (by decide) ?_
      exact z_iret dX2_fromNumber_101 rfl (by cases hf; rfl)
set_option maxRecDepth 4000 in
theorem zc_X7_takeElement {Γ : zG} {N d : Nat} (hd : 12 ≤ d) {a : Nat} {h : zH} {w : Int32 × zH} (hf : f_X7_takeElement N a h = some w) : Zm Γ m_X7_takeElement d [.ref a] h (zoI w) := by
  unfold f_X7_takeElement at hf
  refine z_meth rfl (plainFor_of_name wpl_X7) (by simp [lg_sl, Value.category, zml, m_X7_takeElement]) ?_
  refine z_aload_n 0 dX7_takeElement_0 rfl rfl ?_
  refine z_getI dX7_takeElement_1 zc7 (by decide) wf_X7_79 hf fun x1 hf => ?_
  refine z_iconst (1 : Int32) dX7_takeElement_4 (by decide) ?_
  refine z_icmp_eq 19 dX7_takeElement_5 (by decide) hf (fun hf => ?_) (fun hf => ?_)
  · refine z_aload_n 0 dX7_takeElement_19 rfl rfl ?_
    refine z_aload_n 0 dX7_takeElement_20 rfl rfl ?_
    refine z_getA dX7_takeElement_21 zc7 (by decide) wf_X7_9 hf fun x2 hf => ?_
    refine z_aload_n 0 dX7_takeElement_24 rfl rfl ?_
    refine z_getI dX7_takeElement_25 zc7 (by decide) wf_X7_88 hf fun x3 hf => ?_
    refine z_aload_n 0 dX7_takeElement_28 rfl rfl ?_
    refine z_getA dX7_takeElement_29 zc7 (by decide) wf_X7_33 hf fun x4 hf => ?_
    refine z_getI dX7_takeElement_32 zc0 (by decide) wf_X7_119 hf fun x5 hf => ?_
    refine z_cV_i (d' := d - 1) (As := [.int x3, .int x5]) (rest := [.ref a]) dX7_takeElement_35 lk_X7_122 rfl hf (fun w1 e1 => zc_X2_fromNumber (by omega) e1) (by omega) rfl rfl (Nat.le_of_ble_eq_true rfl) fun y6 hf => ?_
    refine z_putB dX7_takeElement_38 zc7 (by decide) wf_X7_116 (Or.inl rfl) rfl rfl hf fun h7 hf => ?_
    refine z_aload_n 0 dX7_takeElement_41 rfl rfl ?_
    refine z_getI dX7_takeElement_42 zc7 (by decide) wf_X7_116 hf fun x8 hf => ?_
    refine z_iconst (-1 : Int32) dX7_takeElement_45 (by decide) ?_
    refine z_icmp_ne 60 dX7_takeElement_46 (by decide) hf (fun hf => ?_) (fun hf => ?_)
    · refine z_aload_n 0 dX7_takeElement_49 rfl rfl ?_
      refine z_bipush (-3 : Int32) dX7_takeElement_50 (by decide) ?_
      refine z_aload_n 0 dX7_takeElement_52 rfl rfl ?_
      refine z_getI dX7_takeElement_53 zc7 (by decide) wf_X7_85 hf fun x10 hf => ?_
      refine z_cV_i (d' := d - 1) (As := [.int (-3 : Int32), .int x10]) (rest := []) dX7_takeElement_56 lk_X7_112 rfl hf (fun w1 e1 => zc_X7_fail (by omega) e1) (by omega) rfl rfl (Nat.le_of_ble_eq_true rfl) fun y11 hf => ?_
      obtain ⟨x12, hz, hf⟩ := Option.bind_eq_some_iff.mp hf
      obtain ⟨hb, rfl⟩ := zB_of hz
      exact z_zret dX7_takeElement_59 rfl hb (by cases hf; rfl)
    · refine z_aload_n 0 dX7_takeElement_60 rfl rfl ?_
      refine z_cV_v (d' := d - 1) (As := []) (rest := []) dX7_takeElement_61 lk_X7_72 rfl hf (fun w1 e1 => zc_X7_advance (by omega) e1) (by omega) rfl rfl (Nat.le_of_ble_eq_true rfl) fun y9 hf => ?_
      refine z_iconst (1 : Int32) dX7_takeElement_64 (by decide) ?_
      exact z_zret dX7_takeElement_65 rfl (Or.inr rfl) (by cases hf; rfl)
  · refine z_aload_n 0 dX7_takeElement_8 rfl rfl ?_
    refine z_bipush (-2 : Int32) dX7_takeElement_9 (by decide) ?_
    refine z_aload_n 0 dX7_takeElement_11 rfl rfl ?_
    refine z_getI dX7_takeElement_12 zc7 (by decide) wf_X7_85 hf fun x13 hf => ?_
    refine z_cV_i (d' := d - 1) (As := [.int (-2 : Int32), .int x13]) (rest := []) dX7_takeElement_15 lk_X7_112 rfl hf (fun w1 e1 => zc_X7_fail (by omega) e1) (by omega) rfl rfl (Nat.le_of_ble_eq_true rfl) fun y14 hf => ?_
    obtain ⟨x15, hz, hf⟩ := Option.bind_eq_some_iff.mp hf
    obtain ⟨hb, rfl⟩ := zB_of hz
    exact z_zret dX7_takeElement_18 rfl hb (by cases hf; rfl)
set_option maxRecDepth 4000 in
theorem zc_X6_push {Γ : zG} {N d : Nat} (hd : 10 ≤ d) {a : Nat} {p1 : Int32} {h : zH} {w : zH} (hf : f_X6_push N a p1 h = some w) : Zm Γ m_X6_push d [.ref a, .int p1] h (zoV w) := by
  unfold f_X6_push at hf
  refine z_meth rfl (plainFor_of_name wpl_X6) (by simp [lg_sl, Value.category, zml, m_X6_push]) ?_
  refine z_aload_n 0 dX6_push_0 rfl rfl ?_
  refine z_getI dX6_push_1 zc6 (by decide) wf_X6_19 hf fun x1 hf => ?_
  refine z_if_lt 39 dX6_push_4 (by decide) hf (fun hf => ?_) (fun hf => ?_)
  · exact z_vret dX6_push_39 rfl (by cases hf; rfl)
  · refine z_aload_n 0 dX6_push_7 rfl rfl ?_
    refine z_getI dX6_push_8 zc6 (by decide) wf_X6_19 hf fun x2 hf => ?_
    refine z_aload_n 0 dX6_push_11 rfl rfl ?_
    refine z_getA dX6_push_12 zc6 (by decide) wf_X6_13 hf fun x3 hf => ?_
    refine z_alen dX6_push_15 hf fun x4 hf => ?_
    refine z_icmp_ge 39 dX6_push_16 (by decide) hf (fun hf => ?_) (fun hf => ?_)
    · exact z_vret dX6_push_39 rfl (by cases hf; rfl)
    · refine z_aload_n 0 dX6_push_19 rfl rfl ?_
      refine z_getA dX6_push_20 zc6 (by decide) wf_X6_13 hf fun x5 hf => ?_
      refine z_aload_n 0 dX6_push_23 rfl rfl ?_
      refine z_getI dX6_push_24 zc6 (by decide) wf_X6_19 hf fun x6 hf => ?_
      refine z_iload_n 1 dX6_push_27 rfl rfl ?_
      refine z_iastore dX6_push_28 hf fun h7 hf => ?_
      refine z_aload_n 0 dX6_push_29 rfl rfl ?_
      refine z_dup dX6_push_30 rfl ?_
      refine z_getI dX6_push_31 zc6 (by decide) wf_X6_19 hf fun x8 hf => ?_
      refine z_iconst (1 : Int32) dX6_push_34 (by decide) ?_
      refine z_iadd dX6_push_35 ?_
      refine z_putB dX6_push_36 zc6 (by decide) wf_X6_19 (Or.inl rfl) rfl rfl hf fun h9 hf => ?_
      exact z_vret dX6_push_39 rfl (by cases hf; rfl)
set_option maxRecDepth 4000 in
theorem zc_X1_takeCard {Γ : zG} {N d : Nat} (hd : 11 ≤ d) {a : Nat} {p1 : Int32} {p2 : Int32} {h : zH} {w : zH} (hf : f_X1_takeCard N a p1 p2 h = some w) : Zm Γ m_X1_takeCard d [.ref a, .int p1, .int p2] h (zoV w) := by
  unfold f_X1_takeCard at hf
  refine z_meth rfl (plainFor_of_name wpl_X1) (by simp [lg_sl, Value.category, zml, m_X1_takeCard]) ?_
  refine z_aload_n 0 dX1_takeCard_0 rfl rfl ?_
  refine z_getA dX1_takeCard_1 zc1 (by decide) wf_X1_14 hf fun x1 hf => ?_
  refine z_iload_n 1 dX1_takeCard_4 rfl rfl ?_
  refine z_cV_v (d' := d - 1) (As := [.int p1]) (rest := []) dX1_takeCard_5 lk_X1_37 rfl hf (fun w1 e1 => zc_X6_push (by omega) e1) (by omega) rfl rfl (Nat.le_of_ble_eq_true rfl) fun y2 hf => ?_
  refine z_aload_n 0 dX1_takeCard_8 rfl rfl ?_
  refine z_getA dX1_takeCard_9 zc1 (by decide) wf_X1_20 hf fun x3 hf => ?_
  refine z_iload_n 2 dX1_takeCard_12 rfl rfl ?_
  refine z_cV_v (d' := d - 1) (As := [.int p2]) (rest := []) dX1_takeCard_13 lk_X1_37 rfl hf (fun w1 e1 => zc_X6_push (by omega) e1) (by omega) rfl rfl (Nat.le_of_ble_eq_true rfl) fun y4 hf => ?_
  exact z_vret dX1_takeCard_16 rfl (by cases hf; rfl)
set_option maxRecDepth 4000 in
theorem zc_X7_takeCard {Γ : zG} {N d : Nat} (hd : 13 ≤ d) {a : Nat} {h : zH} {w : Int32 × zH} (hf : f_X7_takeCard N a h = some w) : Zm Γ m_X7_takeCard d [.ref a] h (zoI w) := by
  unfold f_X7_takeCard at hf
  refine z_meth rfl (plainFor_of_name wpl_X7) (by simp [lg_sl, Value.category, zml, m_X7_takeCard]) ?_
  refine z_aload_n 0 dX7_takeCard_0 rfl rfl ?_
  refine z_cV_v (d' := d - 1) (As := []) (rest := []) dX7_takeCard_1 lk_X7_72 rfl hf (fun w1 e1 => zc_X7_advance (by omega) e1) (by omega) rfl rfl (Nat.le_of_ble_eq_true rfl) fun y1 hf => ?_
  refine z_aload_n 0 dX7_takeCard_4 rfl rfl ?_
  refine z_getI dX7_takeCard_5 zc7 (by decide) wf_X7_85 hf fun x2 hf => ?_
  refine z_istore_n [(1, .int x2), (0, .ref a)] dX7_takeCard_8 rfl (by decide) rfl ?_
  refine z_aload_n 1 dX7_takeCard_9 rfl rfl ?_
  refine z_iconst (0 : Int32) dX7_takeCard_10 (by decide) ?_
  refine z_aload_n 1 dX7_takeCard_11 rfl rfl ?_
  refine z_getA dX7_takeCard_12 zc7 (by decide) wf_X7_33 hf fun x3 hf => ?_
  refine z_getI dX7_takeCard_15 zc0 (by decide) wf_X7_158 hf fun x4 hf => ?_
  refine z_iconst (1 : Int32) dX7_takeCard_18 (by decide) ?_
  refine z_isub dX7_takeCard_19 ?_
  refine z_cV_i (d' := d - 1) (As := [.int (0 : Int32), .int (x4 - (1 : Int32))]) (rest := []) dX7_takeCard_20 lk_X7_132 rfl hf (fun w1 e1 => zc_X7_takeNumber (by omega) e1) (by omega) rfl rfl (Nat.le_of_ble_eq_true rfl) fun y5 hf => ?_
  refine z_if_ne 28 dX7_takeCard_23 (by decide) hf (fun hf => ?_) (fun hf => ?_)
  · refine z_iconst (0 : Int32) dX7_takeCard_26 (by decide) ?_
    exact z_zret dX7_takeCard_27 rfl (Or.inl rfl) (by cases hf; rfl)
  · refine z_aload_n 1 dX7_takeCard_28 rfl rfl ?_
    refine z_getA dX7_takeCard_29 zc7 (by decide) wf_X7_33 hf fun x6 hf => ?_
    refine z_aload_n 1 dX7_takeCard_32 rfl rfl ?_
    refine z_getI dX7_takeCard_33 zc7 (by decide) wf_X7_116 hf fun x7 hf => ?_
    refine z_cV_n (d' := d - 1) (As := [.int x7]) (rest := []) dX7_takeCard_36 lk_X7_165 rfl hf (fun w1 e1 => zc_X0_bidder (by omega) e1) (by omega) rfl rfl (Nat.le_of_ble_eq_true rfl) (fun y8 hf => ?_) (fun y8 x9 hf => ?_)
    · refine z_astore_nN [(2, .null), (1, .int x2), (0, .ref a)] dX7_takeCard_39 rfl (by decide) rfl ?_
      refine z_aload_nN 0 dX7_takeCard_40 rfl rfl ?_
      refine z_ifnonnullN dX7_takeCard_41 ?_
      refine z_aload_n 2 dX7_takeCard_44 rfl rfl ?_
      refine z_bipush (-3 : Int32) dX7_takeCard_45 (by decide) ?_
      refine z_iload_n 1 dX7_takeCard_47 rfl rfl ?_
      refine z_cV_i (d' := d - 1) (As := [.int (-3 : Int32), .int x2]) (rest := []) dX7_takeCard_48 lk_X7_112 rfl hf (fun w1 e1 => zc_X7_fail (by omega) e1) (by omega) rfl rfl (Nat.le_of_ble_eq_true rfl) fun y10 hf => ?_
      obtain ⟨x11, hz, hf⟩ := Option.bind_eq_some_iff.mp hf
      obtain ⟨hb, rfl⟩ := zB_of hz
      exact z_zret dX7_takeCard_51 rfl hb (by cases hf; rfl)
    · refine z_astore_n [(2, .ref x9), (1, .int x2), (0, .ref a)] dX7_takeCard_39 rfl (by decide) rfl ?_
      refine z_aload_n 0 dX7_takeCard_40 rfl rfl ?_
      refine z_ifnonnull 52 dX7_takeCard_41 (by decide) ?_
      refine z_aload_n 0 dX7_takeCard_52 rfl rfl ?_
      refine z_getA dX7_takeCard_53 zc1 (by decide) wf_X7_169 hf fun x12 hf => ?_
      refine z_cV_i (d' := d - 1) (As := []) (rest := []) dX7_takeCard_56 lk_X7_174 rfl hf (fun w1 e1 => zc_X6_isFull (by omega) e1) (by omega) rfl rfl (Nat.le_of_ble_eq_true rfl) fun y13 hf => ?_
      refine z_if_eq 70 dX7_takeCard_59 (by decide) hf (fun hf => ?_) (fun hf => ?_)
      · refine z_aload_n 2 dX7_takeCard_70 rfl rfl ?_
        refine z_cV_i (d' := d - 1) (As := []) (rest := []) dX7_takeCard_71 lk_X7_177 rfl hf (fun w1 e1 => zc_X7_takeElement (by omega) e1) (by omega) rfl rfl (Nat.le_of_ble_eq_true rfl) fun y14 hf => ?_
        refine z_if_ne 79 dX7_takeCard_74 (by decide) hf (fun hf => ?_) (fun hf => ?_)
        · refine z_iconst (0 : Int32) dX7_takeCard_77 (by decide) ?_
          exact z_zret dX7_takeCard_78 rfl (Or.inl rfl) (by cases hf; rfl)
        · refine z_aload_n 2 dX7_takeCard_79 rfl rfl ?_
          refine z_getI dX7_takeCard_80 zc7 (by decide) wf_X7_116 hf fun x15 hf => ?_
          refine z_istore_n [(3, .int x15), (2, .ref x9), (1, .int x2), (0, .ref a)] dX7_takeCard_83 rfl (by decide) rfl ?_
          refine z_aload_n 3 dX7_takeCard_84 rfl rfl ?_
          refine z_iconst (1 : Int32) dX7_takeCard_85 (by decide) ?_
          refine z_sipush (999 : Int32) dX7_takeCard_86 (by decide) ?_
          refine z_cV_i (d' := d - 1) (As := [.int (1 : Int32), .int (999 : Int32)]) (rest := []) dX7_takeCard_89 lk_X7_132 rfl hf (fun w1 e1 => zc_X7_takeNumber (by omega) e1) (by omega) rfl rfl (Nat.le_of_ble_eq_true rfl) fun y16 hf => ?_
          refine z_if_ne 97 dX7_takeCard_92 (by decide) hf (fun hf => ?_) (fun hf => ?_)
          · refine z_iconst (0 : Int32) dX7_takeCard_95 (by decide) ?_
            exact z_zret dX7_takeCard_96 rfl (Or.inl rfl) (by cases hf; rfl)
          · refine z_aload_n 1 dX7_takeCard_97 rfl rfl ?_
            refine z_iload_n 0 dX7_takeCard_98 rfl rfl ?_
            refine z_aload_n 3 dX7_takeCard_99 rfl rfl ?_
            refine z_getI dX7_takeCard_100 zc7 (by decide) wf_X7_116 hf fun x17 hf => ?_
            refine z_cV_v (d' := d - 1) (As := [.int x15, .int x17]) (rest := []) dX7_takeCard_103 lk_X7_180 rfl hf (fun w1 e1 => zc_X1_takeCard (by omega) e1) (by omega) rfl rfl (Nat.le_of_ble_eq_true rfl) fun y18 hf => ?_
            refine z_iconst (1 : Int32) dX7_takeCard_106 (by decide) ?_
            exact z_zret dX7_takeCard_107 rfl (Or.inr rfl) (by cases hf; rfl)
      · refine z_aload_n 2 dX7_takeCard_62 rfl rfl ?_
        refine z_bipush (-4 : Int32) dX7_takeCard_63 (by decide) ?_
        refine z_iload_n 1 dX7_takeCard_65 rfl rfl ?_
        refine z_cV_i (d' := d - 1) (As := [.int (-4 : Int32), .int x2]) (rest := []) dX7_takeCard_66 lk_X7_112 rfl hf (fun w1 e1 => zc_X7_fail (by omega) e1) (by omega) rfl rfl (Nat.le_of_ble_eq_true rfl) fun y19 hf => ?_
        obtain ⟨x20, hz, hf⟩ := Option.bind_eq_some_iff.mp hf
        obtain ⟨hb, rfl⟩ := zB_of hz
        exact z_zret dX7_takeCard_69 rfl hb (by cases hf; rfl)

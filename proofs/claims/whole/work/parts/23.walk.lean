set_option maxRecDepth 4000 in
theorem zj_X4_remember_24 {Γ : zG} {N d : Nat} {h0 : zH} (hd : 14 ≤ d) {v0 : Nat} {v1 : Nat}  {h : zH} {w : zH} (hf : f_X4_remember_j24 N v0 v1  h = some w) : Z Γ m_X4_remember d h0 (zoV w) 24 [(0, .ref v0), (1, .ref v1)] [] h := by
  unfold f_X4_remember_j24 at hf
  refine z_aload_n 0 dX4_remember_24 rfl rfl ?_
  refine z_getA dX4_remember_25 zc4 (by decide) wf_X4_11 hf fun x2 hf => ?_
  refine z_aload_n 0 dX4_remember_28 rfl rfl ?_
  refine z_aload_n 0 dX4_remember_29 rfl rfl ?_
  refine z_getI dX4_remember_30 zc4 (by decide) wf_X4_20 hf fun x3 hf => ?_
  refine z_cV_i (d' := d - 1) (As := [.int x3]) (rest := [.ref x2]) dX4_remember_33 lk_X4_33 rfl hf (fun w1 e1 => zc_X4_placeOf (by omega) e1) (by omega) rfl rfl (Nat.le_of_ble_eq_true rfl) fun y4 hf => ?_
  refine z_aaload dX4_remember_36 hf fun x5 hf => ?_
  refine z_aload_n 1 dX4_remember_37 rfl rfl ?_
  refine z_cV_v (d' := d - 1) (As := [.ref v1]) (rest := []) dX4_remember_38 lk_X4_37 rfl hf (fun w1 e1 => zc_X0_copyFrom (by omega) e1) (by omega) rfl rfl (Nat.le_of_ble_eq_true rfl) fun y6 hf => ?_
  refine z_aload_n 0 dX4_remember_41 rfl rfl ?_
  refine z_dup dX4_remember_42 rfl ?_
  refine z_getI dX4_remember_43 zc4 (by decide) wf_X4_20 hf fun x7 hf => ?_
  refine z_iconst (1 : Int32) dX4_remember_46 (by decide) ?_
  refine z_iadd dX4_remember_47 ?_
  refine z_putB dX4_remember_48 zc4 (by decide) wf_X4_20 (Or.inl rfl) rfl rfl hf fun h8 hf => ?_
  exact z_vret dX4_remember_51 rfl (by cases hf; rfl)
set_option maxRecDepth 4000 in
theorem zc_X4_remember {Γ : zG} {N d : Nat} (hd : 14 ≤ d) {a : Nat} {p1 : Nat} {h : zH} {w : zH} (hf : f_X4_remember N a p1 h = some w) : Zm Γ m_X4_remember d [.ref a, .ref p1] h (zoV w) := by
  unfold f_X4_remember at hf
  refine z_meth rfl (plainFor_of_name wpl_X4) (by simp [lg_sl, Value.category, zml, m_X4_remember]) ?_
  refine z_aload_n 0 dX4_remember_0 rfl rfl ?_
  refine z_getI dX4_remember_1 zc4 (by decide) wf_X4_20 hf fun x1 hf => ?_
  refine z_bipush (8 : Int32) dX4_remember_4 (by decide) ?_
  refine z_icmp_lt 24 dX4_remember_6 (by decide) hf (fun hf => ?_) (fun hf => ?_)
  · exact Z.sub [0, 1] rfl (zj_X4_remember_24 hd hf)
  · refine z_aload_n 0 dX4_remember_9 rfl rfl ?_
    refine z_aload_n 0 dX4_remember_10 rfl rfl ?_
    refine z_iconst (1 : Int32) dX4_remember_11 (by decide) ?_
    refine z_cV_i (d' := d - 1) (As := [.int (1 : Int32)]) (rest := [.ref a]) dX4_remember_12 lk_X4_33 rfl hf (fun w1 e1 => zc_X4_placeOf (by omega) e1) (by omega) rfl rfl (Nat.le_of_ble_eq_true rfl) fun y9 hf => ?_
    refine z_putB dX4_remember_15 zc4 (by decide) wf_X4_24 (Or.inl rfl) rfl rfl hf fun h10 hf => ?_
    refine z_aload_n 0 dX4_remember_18 rfl rfl ?_
    refine z_bipush (7 : Int32) dX4_remember_19 (by decide) ?_
    refine z_putB dX4_remember_21 zc4 (by decide) wf_X4_20 (Or.inl rfl) rfl rfl hf fun h11 hf => ?_
    exact Z.sub [0, 1] rfl (zj_X4_remember_24 hd hf)
set_option maxRecDepth 4000 in
theorem zc_X7_result {Γ : zG} {N d : Nat} (hd : 10 ≤ d) {a : Nat} {h : zH} {w : Nat × zH} (hf : f_X7_result N a h = some w) : Zm Γ m_X7_result d [.ref a] h (zoA w) := by
  unfold f_X7_result at hf
  refine z_meth rfl (plainFor_of_name wpl_X7) (by simp [lg_sl, Value.category, zml, m_X7_result]) ?_
  refine z_aload_n 0 dX7_result_0 rfl rfl ?_
  refine z_getA dX7_result_1 zc7 (by decide) wf_X7_33 hf fun x1 hf => ?_
  exact z_aret dX7_result_4 rfl (Or.inl ⟨_, rfl⟩) (Or.inr ⟨_, rfl⟩) (by cases hf; rfl)
set_option maxRecDepth 4000 in
theorem zc_X8_load {Γ : zG} {N d : Nat} (hd : 104 ≤ d) {a : Nat} {p1 : Int32} {h : zH} {w : (Int32 ⊕ Nat) × zH} (hf : f_X8_load N a p1 h = some w) : Zm Γ m_X8_load d [.ref a, .int p1] h (zoTI w) := by
  unfold f_X8_load at hf
  refine z_meth rfl (plainFor_of_name wpl_X8) (by simp [lg_sl, Value.category, zml, m_X8_load]) ?_
  refine z_iload_n 1 dX8_load_0 rfl rfl ?_
  refine z_if_lt 15 dX8_load_1 (by decide) hf (fun hf => ?_) (fun hf => ?_)
  · exact z_throw 1 (by decide) dX8_load_15 dX8_load_18 dX8_load_19 dX8_load_22 wc_X8_62 wi_x1 wx_X8_64a wx_X8_64b (by omega) rfl (Nat.le_of_ble_eq_true rfl) (by cases hf; rfl)
  · refine z_iload_n 1 dX8_load_4 rfl rfl ?_
    refine z_aload_n 0 dX8_load_5 rfl rfl ?_
    refine z_getA dX8_load_6 zc8 (by decide) wf_X8_21 hf fun x1 hf => ?_
    refine z_cV_i (d' := d - 1) (As := []) (rest := [.int p1]) dX8_load_9 lk_X8_58 rfl hf (fun w1 e1 => zc_X7_textLength (by omega) e1) (by omega) rfl rfl (Nat.le_of_ble_eq_true rfl) fun y2 hf => ?_
    refine z_icmp_le 23 dX8_load_12 (by decide) hf (fun hf => ?_) (fun hf => ?_)
    · refine z_aload_n 0 dX8_load_23 rfl rfl ?_
      refine z_getA dX8_load_24 zc8 (by decide) wf_X8_21 hf fun x3 hf => ?_
      refine z_iload_n 1 dX8_load_27 rfl rfl ?_
      refine z_cV_i (d' := d - 1) (As := [.int p1]) (rest := []) dX8_load_28 lk_X8_65 rfl hf (fun w1 e1 => zc_X7_read (by omega) e1) (by omega) rfl rfl (Nat.le_of_ble_eq_true rfl) fun y4 hf => ?_
      refine z_istore_n [(2, .int y4.1), (0, .ref a), (1, .int p1)] dX8_load_31 rfl (by decide) rfl ?_
      refine z_aload_n 1 dX8_load_32 rfl rfl ?_
      refine z_aload_n 1 dX8_load_33 rfl rfl ?_
      refine z_getA dX8_load_34 zc8 (by decide) wf_X8_21 hf fun x5 hf => ?_
      refine z_cV_i (d' := d - 1) (As := []) (rest := [.ref a]) dX8_load_37 lk_X8_69 rfl hf (fun w1 e1 => zc_X7_errorPlace (by omega) e1) (by omega) rfl rfl (Nat.le_of_ble_eq_true rfl) fun y6 hf => ?_
      refine z_putB dX8_load_40 zc8 (by decide) wf_X8_46 (Or.inl rfl) rfl rfl hf fun h7 hf => ?_
      refine z_iload_n 0 dX8_load_43 rfl rfl ?_
      refine z_if_eq 49 dX8_load_44 (by decide) hf (fun hf => ?_) (fun hf => ?_)
      · refine z_aload_n 1 dX8_load_49 rfl rfl ?_
        refine z_getA dX8_load_50 zc8 (by decide) wf_X8_35 hf fun x8 hf => ?_
        refine z_aload_n 1 dX8_load_53 rfl rfl ?_
        refine z_getA dX8_load_54 zc8 (by decide) wf_X8_28 hf fun x9 hf => ?_
        refine z_cV_v (d' := d - 1) (As := [.ref x9]) (rest := []) dX8_load_57 lk_X8_72 rfl hf (fun w1 e1 => zc_X4_remember (by omega) e1) (by omega) rfl rfl (Nat.le_of_ble_eq_true rfl) fun y10 hf => ?_
        refine z_aload_n 1 dX8_load_60 rfl rfl ?_
        refine z_getA dX8_load_61 zc8 (by decide) wf_X8_28 hf fun x11 hf => ?_
        refine z_aload_n 1 dX8_load_64 rfl rfl ?_
        refine z_getA dX8_load_65 zc8 (by decide) wf_X8_21 hf fun x12 hf => ?_
        refine z_cV_a (d' := d - 1) (As := []) (rest := [.ref x11]) dX8_load_68 lk_X8_76 rfl hf (fun w1 e1 => zc_X7_result (by omega) e1) (by omega) rfl rfl (Nat.le_of_ble_eq_true rfl) fun y13 hf => ?_
        refine z_cV_v (d' := d - 1) (As := [.ref y13.1]) (rest := []) dX8_load_71 lk_X8_80 rfl hf (fun w1 e1 => zc_X0_copyFrom (by omega) e1) (by omega) rfl rfl (Nat.le_of_ble_eq_true rfl) fun y14 hf => ?_
        refine z_aload_n 1 dX8_load_74 rfl rfl ?_
        refine z_getA dX8_load_75 zc8 (by decide) wf_X8_28 hf fun x15 hf => ?_
        refine z_getI dX8_load_78 zc0 (by decide) wf_X8_83 hf fun x16 hf => ?_
        exact z_iret dX8_load_81 rfl (by cases hf; rfl)
      · refine z_iload_n 0 dX8_load_47 rfl rfl ?_
        exact z_iret dX8_load_48 rfl (by cases hf; rfl)
    · exact z_throw 1 (by decide) dX8_load_15 dX8_load_18 dX8_load_19 dX8_load_22 wc_X8_62 wi_x1 wx_X8_64a wx_X8_64b (by omega) rfl (Nat.le_of_ble_eq_true rfl) (by cases hf; rfl)
set_option maxRecDepth 4000 in
theorem zc_L_load {Γ : zG} {N d : Nat} (hd : 105 ≤ d) {p1 : Nat} {p2 : Int32} {p3 : Nat} {h : zH} {w : Int32 × zH} (hf : f_L_load N p1 p2 p3 h = some w) : Zm Γ m_L_load d [.ref p1, .int p2, .ref p3] h (zoI w) := by
  unfold f_L_load at hf
  refine z_methH (by decide) (by decide +kernel) (by simp [lg_sl, Value.category, zml, m_L_load]) ?_
  refine z_aload_n 2 dL_load_0 rfl rfl ?_
  refine z_iconst (0 : Int32) dL_load_1 (by decide) ?_
  refine z_aload_n 0 dL_load_2 rfl rfl ?_
  refine z_iload_n 1 dL_load_3 rfl rfl ?_
  refine z_cV_ti (d' := d - 1) (As := [.int p2]) (rest := [.int (0 : Int32), .ref p3]) dL_load_4 lk_L_7 rfl hf (fun w1 e1 => zc_X8_load (by omega) e1) (by omega) rfl rfl (Nat.le_of_ble_eq_true rfl) (fun y1 x2 hf => ?_) (fun y1 k3 hf => ?_)
  · refine z_i2l dL_load_7 ?_
    refine z_lastore dL_load_8 hf fun h4 hf => ?_
    refine z_goto 15 dL_load_9 (by decide) ?_
    refine z_iconst (0 : Int32) dL_load_15 (by decide) ?_
    exact z_iret dL_load_16 rfl (by cases hf; rfl)
  · by_cases e0 : k3 = 1
    · rw [if_pos e0] at hf
      subst e0
      refine zx_catch (by decide) [] (0, 9, 12, 13) [] rfl (fun z hz => absurd hz List.not_mem_nil) (by decide) (by decide) wc_L_13 wct_1 fun q5 => ?_
      refine z_astore_n [(3, .ref q5), (0, .ref p1), (1, .int p2), (2, .ref p3)] dL_load_12 rfl (by decide) rfl ?_
      refine z_iconst (1 : Int32) dL_load_13 (by decide) ?_
      exact z_iret dL_load_14 rfl (by cases hf; rfl)
    · rw [if_neg e0] at hf
      cases hf
set_option maxRecDepth 4000 in
theorem zc_X9_in {Γ : zG} {N d : Nat} (hd : 10 ≤ d) {p1 : Int32} {p2 : Int32} {p3 : Int32} {h : zH} {w : Int32 × zH} (hf : f_X9_in N p1 p2 p3 h = some w) : Zm Γ m_X9_in d [.int p1, .int p2, .int p3] h (zoI w) := by
  unfold f_X9_in at hf
  refine z_meth rfl (plainFor_of_name wpl_X9) (by simp [lg_sl, Value.category, zml, m_X9_in]) ?_
  refine z_iload_n 0 dX9_in_0 rfl rfl ?_
  refine z_iload_n 1 dX9_in_1 rfl rfl ?_
  refine z_icmp_lt 14 dX9_in_2 (by decide) hf (fun hf => ?_) (fun hf => ?_)
  · refine z_iconst (0 : Int32) dX9_in_14 (by decide) ?_
    exact z_zret dX9_in_15 rfl (Or.inl rfl) (by cases hf; rfl)
  · refine z_iload_n 0 dX9_in_5 rfl rfl ?_
    refine z_iload_n 2 dX9_in_6 rfl rfl ?_
    refine z_icmp_gt 14 dX9_in_7 (by decide) hf (fun hf => ?_) (fun hf => ?_)
    · refine z_iconst (0 : Int32) dX9_in_14 (by decide) ?_
      exact z_zret dX9_in_15 rfl (Or.inl rfl) (by cases hf; rfl)
    · refine z_iconst (1 : Int32) dX9_in_10 (by decide) ?_
      refine z_goto 15 dX9_in_11 (by decide) ?_
      exact z_zret dX9_in_15 rfl (Or.inr rfl) (by cases hf; rfl)
set_option maxRecDepth 4000 in
theorem zj_X9_fails_16 {Γ : zG} {N d : Nat} {h0 : zH} (hd : 10 ≤ d) {v0 : Nat}  {h : zH} {w : Int32 × zH} (hf : f_X9_fails_j16 N v0  h = some w) : Z Γ m_X9_fails d h0 (zoI w) 16 [(0, .ref v0)] [] h := by
  unfold f_X9_fails_j16 at hf
  refine z_aload_n 0 dX9_fails_16 rfl rfl ?_
  refine z_getI dX9_fails_17 zc9 (by decide) wf_X9_46 hf fun x1 hf => ?_
  refine z_if_eq 27 dX9_fails_20 (by decide) hf (fun hf => ?_) (fun hf => ?_)
  · refine z_iconst (0 : Int32) dX9_fails_27 (by decide) ?_
    exact z_zret dX9_fails_28 rfl (Or.inl rfl) (by cases hf; rfl)
  · refine z_iconst (1 : Int32) dX9_fails_23 (by decide) ?_
    refine z_goto 28 dX9_fails_24 (by decide) ?_
    exact z_zret dX9_fails_28 rfl (Or.inr rfl) (by cases hf; rfl)
set_option maxRecDepth 4000 in
theorem zc_X9_fails {Γ : zG} {N d : Nat} (hd : 10 ≤ d) {a : Nat} {p1 : Int32} {p2 : Int32} {h : zH} {w : Int32 × zH} (hf : f_X9_fails N a p1 p2 h = some w) : Zm Γ m_X9_fails d [.ref a, .int p1, .int p2] h (zoI w) := by
  unfold f_X9_fails at hf
  refine z_meth rfl (plainFor_of_name wpl_X9) (by simp [lg_sl, Value.category, zml, m_X9_fails]) ?_
  refine z_iload_n 1 dX9_fails_0 rfl rfl ?_
  refine z_if_eq 16 dX9_fails_1 (by decide) hf (fun hf => ?_) (fun hf => ?_)
  · exact Z.sub [0] rfl (zj_X9_fails_16 hd hf)
  · refine z_aload_n 0 dX9_fails_4 rfl rfl ?_
    refine z_getI dX9_fails_5 zc9 (by decide) wf_X9_46 hf fun x2 hf => ?_
    refine z_if_ne 16 dX9_fails_8 (by decide) hf (fun hf => ?_) (fun hf => ?_)
    · refine z_aload_n 0 dX9_fails_11 rfl rfl ?_
      refine z_iload_n 2 dX9_fails_12 rfl rfl ?_
      refine z_putB dX9_fails_13 zc9 (by decide) wf_X9_46 (Or.inl rfl) rfl rfl hf fun h3 hf => ?_
      exact Z.sub [0] rfl (zj_X9_fails_16 hd hf)
    · exact Z.sub [0] rfl (zj_X9_fails_16 hd hf)
set_option maxRecDepth 4000 in
theorem zc_X9_isGood {Γ : zG} {N d : Nat} (hd : 10 ≤ d) {a : Nat} {h : zH} {w : Int32 × zH} (hf : f_X9_isGood N a h = some w) : Zm Γ m_X9_isGood d [.ref a] h (zoI w) := by
  unfold f_X9_isGood at hf
  refine z_meth rfl (plainFor_of_name wpl_X9) (by simp [lg_sl, Value.category, zml, m_X9_isGood]) ?_
  refine z_aload_n 0 dX9_isGood_0 rfl rfl ?_
  refine z_getI dX9_isGood_1 zc9 (by decide) wf_X9_73 hf fun x1 hf => ?_
  refine z_if_ne 11 dX9_isGood_4 (by decide) hf (fun hf => ?_) (fun hf => ?_)
  · refine z_iconst (1 : Int32) dX9_isGood_7 (by decide) ?_
    refine z_goto 12 dX9_isGood_8 (by decide) ?_
    exact z_zret dX9_isGood_12 rfl (Or.inr rfl) (by cases hf; rfl)
  · refine z_iconst (0 : Int32) dX9_isGood_11 (by decide) ?_
    exact z_zret dX9_isGood_12 rfl (Or.inl rfl) (by cases hf; rfl)
set_option maxRecDepth 4000 in
theorem zc_X9_byteAt {Γ : zG} {N d : Nat} (hd : 10 ≤ d) {a : Nat} {p1 : Int32} {h : zH} {w : Int32 × zH} (hf : f_X9_byteAt N a p1 h = some w) : Zm Γ m_X9_byteAt d [.ref a, .int p1] h (zoI w) := by
  unfold f_X9_byteAt at hf
  refine z_meth rfl (plainFor_of_name wpl_X9) (by simp [lg_sl, Value.category, zml, m_X9_byteAt]) ?_
  refine z_iload_n 1 dX9_byteAt_0 rfl rfl ?_
  refine z_aload_n 0 dX9_byteAt_1 rfl rfl ?_
  refine z_getI dX9_byteAt_2 zc9 (by decide) wf_X9_64 hf fun x1 hf => ?_
  refine z_icmp_ge 17 dX9_byteAt_5 (by decide) hf (fun hf => ?_) (fun hf => ?_)
  · refine z_iconst (-1 : Int32) dX9_byteAt_17 (by decide) ?_
    exact z_iret dX9_byteAt_18 rfl (by cases hf; rfl)
  · refine z_aload_n 0 dX9_byteAt_8 rfl rfl ?_
    refine z_getA dX9_byteAt_9 zc9 (by decide) wf_X9_9 hf fun x2 hf => ?_
    refine z_iload_n 1 dX9_byteAt_12 rfl rfl ?_
    refine z_iaload dX9_byteAt_13 hf fun x3 hf => ?_
    refine z_goto 18 dX9_byteAt_14 (by decide) ?_
    exact z_iret dX9_byteAt_18 rfl (by cases hf; rfl)
set_option maxRecDepth 4000 in
theorem zl_X9_next_0 {Γ : zG} {N d : Nat} {h0 : zH} (hd : 11 ≤ d) {v0 : Nat} {k1 : zH → Option (Int32 × zH)} {w : Int32 × zH}  (hk1 : ∀ (h : zH), k1 h = some w → Z Γ m_X9_next d h0 (zoI w) 26 [(0, .ref v0)] [] h) : ∀ (n : Nat)  (h : zH), f_X9_next_l0 N v0 k1 n  h = some w → Z Γ m_X9_next d h0 (zoI w) 0 [(0, .ref v0)] [] h := by
  intro n
  induction n with
  | zero => intro  h hf; cases hf
  | succ n ih =>
    intro  h hf
    rw [f_X9_next_l0] at hf
    refine z_aload_n 0 dX9_next_0 rfl rfl ?_
    refine z_aload_n 0 dX9_next_1 rfl rfl ?_
    refine z_getI dX9_next_2 zc9 (by decide) wf_X9_67 hf fun x1 hf => ?_
    refine z_cV_i (d' := d - 1) (As := [.int x1]) (rest := []) dX9_next_5 lk_X9_70 rfl hf (fun w1 e1 => zc_X9_byteAt (by omega) e1) (by omega) rfl rfl (Nat.le_of_ble_eq_true rfl) fun y2 hf => ?_
    refine z_bipush (32 : Int32) dX9_next_8 (by decide) ?_
    refine z_icmp_ne 26 dX9_next_10 (by decide) hf (fun hf => ?_) (fun hf => ?_)
    · refine z_aload_n 0 dX9_next_13 rfl rfl ?_
      refine z_dup dX9_next_14 rfl ?_
      refine z_getI dX9_next_15 zc9 (by decide) wf_X9_67 hf fun x3 hf => ?_
      refine z_iconst (1 : Int32) dX9_next_18 (by decide) ?_
      refine z_iadd dX9_next_19 ?_
      refine z_putB dX9_next_20 zc9 (by decide) wf_X9_67 (Or.inl rfl) rfl rfl hf fun h4 hf => ?_
      refine z_goto 0 dX9_next_23 (by decide) ?_
      exact Z.sub [0] rfl (ih h4 hf)
    · exact Z.sub [0] rfl (hk1 y2.2 hf)
set_option maxRecDepth 4000 in
theorem zc_X9_next {Γ : zG} {N d : Nat} (hd : 11 ≤ d) {a : Nat} {h : zH} {w : Int32 × zH} (hf : f_X9_next N a h = some w) : Zm Γ m_X9_next d [.ref a] h (zoI w) := by
  unfold f_X9_next at hf
  refine z_meth rfl (plainFor_of_name wpl_X9) (by simp [lg_sl, Value.category, zml, m_X9_next]) ?_
  refine Z.sub [0] rfl (zl_X9_next_0 hd (fun h5 hf => ?_) N h hf)
  · refine z_aload_n 0 dX9_next_26 rfl rfl ?_
    refine z_aload_n 0 dX9_next_27 rfl rfl ?_
    refine z_getI dX9_next_28 zc9 (by decide) wf_X9_67 hf fun x6 hf => ?_
    refine z_cV_i (d' := d - 1) (As := [.int x6]) (rest := []) dX9_next_31 lk_X9_70 rfl hf (fun w1 e1 => zc_X9_byteAt (by omega) e1) (by omega) rfl rfl (Nat.le_of_ble_eq_true rfl) fun y7 hf => ?_
    exact z_iret dX9_next_34 rfl (by cases hf; rfl)
set_option maxRecDepth 4000 in
theorem zl_X9_takeWord_16 {Γ : zG} {N d : Nat} {h0 : zH} (hd : 21 ≤ d) {v0 : Nat} {v1 : Nat} {k1 : Int32 → zH → Option (Int32 × zH)} {w : Int32 × zH}  (hk1 : ∀ (v2 : Int32) (h : zH), k1 v2 h = some w → Z Γ m_X9_takeWord d h0 (zoI w) 48 [(0, .ref v0), (1, .ref (zKa Γ v1)), (2, .int v2)] [] h) : ∀ (n : Nat) (v2 : Int32) (h : zH), f_X9_takeWord_l16 N v0 v1 k1 n v2 h = some w → Z Γ m_X9_takeWord d h0 (zoI w) 16 [(0, .ref v0), (1, .ref (zKa Γ v1)), (2, .int v2)] [] h := by
  intro n
  induction n with
  | zero => intro v2 h hf; cases hf
  | succ n ih =>
    intro v2 h hf
    rw [f_X9_takeWord_l16] at hf
    refine z_iload_n 2 dX9_takeWord_16 rfl rfl ?_
    refine z_aload_n 1 dX9_takeWord_17 rfl rfl ?_
    refine z_lnS dX9_takeWord_18 lk_X9_91 (by omega) (Nat.le_of_ble_eq_true rfl) hf fun x3 hf => ?_
    refine z_icmp_ge 48 dX9_takeWord_21 (by decide) hf (fun hf => ?_) (fun hf => ?_)
    · exact Z.sub [0, 1, 2] rfl (hk1 v2 h hf)
    · refine z_aload_n 0 dX9_takeWord_24 rfl rfl ?_
      refine z_aload_n 0 dX9_takeWord_25 rfl rfl ?_
      refine z_getI dX9_takeWord_26 zc9 (by decide) wf_X9_67 hf fun x4 hf => ?_
      refine z_iload_n 2 dX9_takeWord_29 rfl rfl ?_
      refine z_iadd dX9_takeWord_30 ?_
      refine z_cV_i (d' := d - 1) (As := [.int (x4 + v2)]) (rest := []) dX9_takeWord_31 lk_X9_70 rfl hf (fun w1 e1 => zc_X9_byteAt (by omega) e1) (by omega) rfl rfl (Nat.le_of_ble_eq_true rfl) fun y5 hf => ?_
      refine z_aload_n 1 dX9_takeWord_34 rfl rfl ?_
      refine z_iload_n 2 dX9_takeWord_35 rfl rfl ?_
      refine z_chS dX9_takeWord_36 lk_X9_96 (by omega) (Nat.le_of_ble_eq_true rfl) hf fun x6 hf => ?_
      refine z_icmp_ne 48 dX9_takeWord_39 (by decide) hf (fun hf => ?_) (fun hf => ?_)
      · refine z_iinc (v2 + (1 : Int32)) 2 [(2, .int (v2 + (1 : Int32))), (0, .ref v0), (1, .ref (zKa Γ v1))] dX9_takeWord_42 rfl rfl (by decide) rfl ?_
        refine z_goto 16 dX9_takeWord_45 (by decide) ?_
        exact Z.sub [1, 2, 0] rfl (ih (v2 + (1 : Int32)) y5.2 hf)
      · exact Z.sub [0, 1, 2] rfl (hk1 v2 y5.2 hf)
set_option maxRecDepth 4000 in
theorem zc_X9_takeWord {Γ : zG} {N d : Nat} (hd : 21 ≤ d) {a : Nat} {p1 : Nat} {h : zH} {w : Int32 × zH} (hf : f_X9_takeWord N a p1 h = some w) : Zm Γ m_X9_takeWord d [.ref a, .ref (zKa Γ p1)] h (zoI w) := by
  unfold f_X9_takeWord at hf
  refine z_meth rfl (plainFor_of_name wpl_X9) (by simp [lg_sl, Value.category, zml, m_X9_takeWord]) ?_
  refine z_aload_n 0 dX9_takeWord_0 rfl rfl ?_
  refine z_cV_i (d' := d - 1) (As := []) (rest := []) dX9_takeWord_1 lk_X9_83 rfl hf (fun w1 e1 => zc_X9_isGood (by omega) e1) (by omega) rfl rfl (Nat.le_of_ble_eq_true rfl) fun y1 hf => ?_
  refine z_if_ne 9 dX9_takeWord_4 (by decide) hf (fun hf => ?_) (fun hf => ?_)
  · refine z_iconst (0 : Int32) dX9_takeWord_7 (by decide) ?_
    exact z_zret dX9_takeWord_8 rfl (Or.inl rfl) (by cases hf; rfl)
  · refine z_aload_n 0 dX9_takeWord_9 rfl rfl ?_
    refine z_cV_i (d' := d - 1) (As := []) (rest := []) dX9_takeWord_10 lk_X9_87 rfl hf (fun w1 e1 => zc_X9_next (by omega) e1) (by omega) rfl rfl (Nat.le_of_ble_eq_true rfl) fun y2 hf => ?_
    refine z_pop dX9_takeWord_13 rfl ?_
    refine z_iconst (0 : Int32) dX9_takeWord_14 (by decide) ?_
    refine z_istore_n [(2, .int (0 : Int32)), (0, .ref a), (1, .ref (zKa Γ p1))] dX9_takeWord_15 rfl (by decide) rfl ?_
    refine Z.sub [1, 2, 0] rfl (zl_X9_takeWord_16 hd (fun u7 h8 hf => ?_) N (0 : Int32) y2.2 hf)
    · refine z_iload_n 2 dX9_takeWord_48 rfl rfl ?_
      refine z_aload_n 1 dX9_takeWord_49 rfl rfl ?_
      refine z_lnS dX9_takeWord_50 lk_X9_91 (by omega) (Nat.le_of_ble_eq_true rfl) hf fun x9 hf => ?_
      refine z_icmp_lt 76 dX9_takeWord_53 (by decide) hf (fun hf => ?_) (fun hf => ?_)
      · refine z_iconst (0 : Int32) dX9_takeWord_76 (by decide) ?_
        exact z_zret dX9_takeWord_77 rfl (Or.inl rfl) (by cases hf; rfl)
      · refine z_aload_n 0 dX9_takeWord_56 rfl rfl ?_
        refine z_aload_n 0 dX9_takeWord_57 rfl rfl ?_
        refine z_getI dX9_takeWord_58 zc9 (by decide) wf_X9_67 hf fun x10 hf => ?_
        refine z_iload_n 2 dX9_takeWord_61 rfl rfl ?_
        refine z_iadd dX9_takeWord_62 ?_
        refine z_cV_i (d' := d - 1) (As := [.int (x10 + u7)]) (rest := []) dX9_takeWord_63 lk_X9_70 rfl hf (fun w1 e1 => zc_X9_byteAt (by omega) e1) (by omega) rfl rfl (Nat.le_of_ble_eq_true rfl) fun y11 hf => ?_
        refine z_bipush (97 : Int32) dX9_takeWord_66 (by decide) ?_
        refine z_bipush (122 : Int32) dX9_takeWord_68 (by decide) ?_
        refine z_cS_i (d' := d - 1) (As := [.int y11.1, .int (97 : Int32), .int (122 : Int32)]) (rest := []) dX9_takeWord_70 lk_X9_79 hf (fun w1 e1 => zc_X9_in (by omega) e1) (by omega) rfl rfl (Nat.le_of_ble_eq_true rfl) fun y12 hf => ?_
        refine z_if_eq 78 dX9_takeWord_73 (by decide) hf (fun hf => ?_) (fun hf => ?_)
        · refine z_aload_n 0 dX9_takeWord_78 rfl rfl ?_
          refine z_dup dX9_takeWord_79 rfl ?_
          refine z_getI dX9_takeWord_80 zc9 (by decide) wf_X9_67 hf fun x13 hf => ?_
          refine z_iload_n 2 dX9_takeWord_83 rfl rfl ?_
          refine z_iadd dX9_takeWord_84 ?_
          refine z_putB dX9_takeWord_85 zc9 (by decide) wf_X9_67 (Or.inl rfl) rfl rfl hf fun h14 hf => ?_
          refine z_iconst (1 : Int32) dX9_takeWord_88 (by decide) ?_
          exact z_zret dX9_takeWord_89 rfl (Or.inr rfl) (by cases hf; rfl)
        · refine z_iconst (0 : Int32) dX9_takeWord_76 (by decide) ?_
          exact z_zret dX9_takeWord_77 rfl (Or.inl rfl) (by cases hf; rfl)
set_option maxRecDepth 4000 in
theorem zc_X9_report {Γ : zG} {N d : Nat} (hd : 10 ≤ d) {a : Nat} {p1 : Int32} {p2 : Int32} {h : zH} {w : zH} (hf : f_X9_report N a p1 p2 h = some w) : Zm Γ m_X9_report d [.ref a, .int p1, .int p2] h (zoV w) := by
  unfold f_X9_report at hf
  refine z_meth rfl (plainFor_of_name wpl_X9) (by simp [lg_sl, Value.category, zml, m_X9_report]) ?_
  refine z_aload_n 0 dX9_report_0 rfl rfl ?_
  refine z_getI dX9_report_1 zc9 (by decide) wf_X9_73 hf fun x1 hf => ?_
  refine z_if_eq 8 dX9_report_4 (by decide) hf (fun hf => ?_) (fun hf => ?_)
  · refine z_aload_n 0 dX9_report_8 rfl rfl ?_
    refine z_iload_n 1 dX9_report_9 rfl rfl ?_
    refine z_putB dX9_report_10 zc9 (by decide) wf_X9_73 (Or.inl rfl) rfl rfl hf fun h2 hf => ?_
    refine z_aload_n 0 dX9_report_13 rfl rfl ?_
    refine z_iload_n 2 dX9_report_14 rfl rfl ?_
    refine z_putB dX9_report_15 zc9 (by decide) wf_X9_76 (Or.inl rfl) rfl rfl hf fun h3 hf => ?_
    exact z_vret dX9_report_18 rfl (by cases hf; rfl)
  · exact z_vret dX9_report_7 rfl (by cases hf; rfl)
set_option maxRecDepth 4000 in
theorem zc_X9_isDigit {Γ : zG} {N d : Nat} (hd : 11 ≤ d) {p1 : Int32} {h : zH} {w : Int32 × zH} (hf : f_X9_isDigit N p1 h = some w) : Zm Γ m_X9_isDigit d [.int p1] h (zoI w) := by
  unfold f_X9_isDigit at hf
  refine z_meth rfl (plainFor_of_name wpl_X9) (by simp [lg_sl, Value.category, zml, m_X9_isDigit]) ?_
  refine z_iload_n 0 dX9_isDigit_0 rfl rfl ?_
  refine z_bipush (48 : Int32) dX9_isDigit_1 (by decide) ?_
  refine z_bipush (57 : Int32) dX9_isDigit_3 (by decide) ?_
  refine z_cS_i (d' := d - 1) (As := [.int p1, .int (48 : Int32), .int (57 : Int32)]) (rest := []) dX9_isDigit_5 lk_X9_79 hf (fun w1 e1 => zc_X9_in (by omega) e1) (by omega) rfl rfl (Nat.le_of_ble_eq_true rfl) fun y1 hf => ?_
  obtain ⟨x2, hz, hf⟩ := Option.bind_eq_some_iff.mp hf
  obtain ⟨hb, rfl⟩ := zB_of hz
  exact z_zret dX9_isDigit_8 rfl hb (by cases hf; rfl)
set_option maxRecDepth 4000 in
theorem zc_X9_min {Γ : zG} {N d : Nat} (hd : 10 ≤ d) {p1 : Int32} {p2 : Int32} {h : zH} {w : Int32 × zH} (hf : f_X9_min N p1 p2 h = some w) : Zm Γ m_X9_min d [.int p1, .int p2] h (zoI w) := by
  unfold f_X9_min at hf
  refine z_meth rfl (plainFor_of_name wpl_X9) (by simp [lg_sl, Value.category, zml, m_X9_min]) ?_
  refine z_iload_n 0 dX9_min_0 rfl rfl ?_
  refine z_iload_n 1 dX9_min_1 rfl rfl ?_
  refine z_icmp_ge 9 dX9_min_2 (by decide) hf (fun hf => ?_) (fun hf => ?_)
  · refine z_iload_n 1 dX9_min_9 rfl rfl ?_
    exact z_iret dX9_min_10 rfl (by cases hf; rfl)
  · refine z_iload_n 0 dX9_min_5 rfl rfl ?_
    refine z_goto 10 dX9_min_6 (by decide) ?_
    exact z_iret dX9_min_10 rfl (by cases hf; rfl)
set_option maxRecDepth 4000 in
theorem zl_X9_number_41 {Γ : zG} {N d : Nat} {h0 : zH} (hd : 12 ≤ d) {v0 : Nat} {v1 : Int32} {v2 : Int32} {k1 : Int32 → zH → Option (Int32 × zH)} {w : Int32 × zH}  (hk1 : ∀ (v3 : Int32) (h : zH), k1 v3 h = some w → Z Γ m_X9_number d h0 (zoI w) 90 [(0, .ref v0), (1, .int v1), (2, .int v2), (3, .int v3)] [] h) : ∀ (n : Nat) (v3 : Int32) (h : zH), f_X9_number_l41 N v0 v1 v2 k1 n v3 h = some w → Z Γ m_X9_number d h0 (zoI w) 41 [(0, .ref v0), (1, .int v1), (2, .int v2), (3, .int v3)] [] h := by
  intro n
  induction n with
  | zero => intro v3 h hf; cases hf
  | succ n ih =>
    intro v3 h hf
    rw [f_X9_number_l41] at hf
    refine z_aload_n 0 dX9_number_41 rfl rfl ?_
    refine z_aload_n 0 dX9_number_42 rfl rfl ?_
    refine z_getI dX9_number_43 zc9 (by decide) wf_X9_67 hf fun x6 hf => ?_
    refine z_cV_i (d' := d - 1) (As := [.int x6]) (rest := []) dX9_number_46 lk_X9_70 rfl hf (fun w1 e1 => zc_X9_byteAt (by omega) e1) (by omega) rfl rfl (Nat.le_of_ble_eq_true rfl) fun y7 hf => ?_
    refine z_cS_i (d' := d - 1) (As := [.int y7.1]) (rest := []) dX9_number_49 lk_X9_104 hf (fun w1 e1 => zc_X9_isDigit (by omega) e1) (by omega) rfl rfl (Nat.le_of_ble_eq_true rfl) fun y8 hf => ?_
    refine z_if_eq 90 dX9_number_52 (by decide) hf (fun hf => ?_) (fun hf => ?_)
    · exact Z.sub [0, 1, 2, 3] rfl (hk1 v3 y8.2 hf)
    · refine z_ldc (1000000 : Int32) dX9_number_55 wk_X9_111 ?_
      refine z_bipush (10 : Int32) dX9_number_57 (by decide) ?_
      refine z_iload_n 3 dX9_number_59 rfl rfl ?_
      refine z_imul dX9_number_60 ?_
      refine z_aload_n 0 dX9_number_61 rfl rfl ?_
      refine z_aload_n 0 dX9_number_62 rfl rfl ?_
      refine z_getI dX9_number_63 zc9 (by decide) wf_X9_67 hf fun x9 hf => ?_
      refine z_cV_i (d' := d - 1) (As := [.int x9]) (rest := [.int ((10 : Int32) * v3), .int (1000000 : Int32)]) dX9_number_66 lk_X9_70 rfl hf (fun w1 e1 => zc_X9_byteAt (by omega) e1) (by omega) rfl rfl (Nat.le_of_ble_eq_true rfl) fun y10 hf => ?_
      refine z_iadd dX9_number_69 ?_
      refine z_bipush (48 : Int32) dX9_number_70 (by decide) ?_
      refine z_isub dX9_number_72 ?_
      refine z_cS_i (d' := d - 1) (As := [.int (1000000 : Int32), .int ((((10 : Int32) * v3) + y10.1) - (48 : Int32))]) (rest := []) dX9_number_73 lk_X9_112 hf (fun w1 e1 => zc_X9_min (by omega) e1) (by omega) rfl rfl (Nat.le_of_ble_eq_true rfl) fun y11 hf => ?_
      refine z_istore_n [(3, .int y11.1), (0, .ref v0), (1, .int v1), (2, .int v2)] dX9_number_76 rfl (by decide) rfl ?_
      refine z_aload_n 1 dX9_number_77 rfl rfl ?_
      refine z_dup dX9_number_78 rfl ?_
      refine z_getI dX9_number_79 zc9 (by decide) wf_X9_67 hf fun x12 hf => ?_
      refine z_iconst (1 : Int32) dX9_number_82 (by decide) ?_
      refine z_iadd dX9_number_83 ?_
      refine z_putB dX9_number_84 zc9 (by decide) wf_X9_67 (Or.inl rfl) rfl rfl hf fun h13 hf => ?_
      refine z_goto 41 dX9_number_87 (by decide) ?_
      exact Z.sub [1, 2, 3, 0] rfl (ih y11.1 h13 hf)
set_option maxRecDepth 4000 in
theorem zc_X9_number {Γ : zG} {N d : Nat} (hd : 12 ≤ d) {a : Nat} {p1 : Int32} {p2 : Int32} {h : zH} {w : Int32 × zH} (hf : f_X9_number N a p1 p2 h = some w) : Zm Γ m_X9_number d [.ref a, .int p1, .int p2] h (zoI w) := by
  unfold f_X9_number at hf
  refine z_meth rfl (plainFor_of_name wpl_X9) (by simp [lg_sl, Value.category, zml, m_X9_number]) ?_
  refine z_aload_n 0 dX9_number_0 rfl rfl ?_
  refine z_cV_i (d' := d - 1) (As := []) (rest := []) dX9_number_1 lk_X9_83 rfl hf (fun w1 e1 => zc_X9_isGood (by omega) e1) (by omega) rfl rfl (Nat.le_of_ble_eq_true rfl) fun y1 hf => ?_
  refine z_if_ne 9 dX9_number_4 (by decide) hf (fun hf => ?_) (fun hf => ?_)
  · refine z_iconst (0 : Int32) dX9_number_7 (by decide) ?_
    exact z_iret dX9_number_8 rfl (by cases hf; rfl)
  · refine z_aload_n 0 dX9_number_9 rfl rfl ?_
    refine z_cV_i (d' := d - 1) (As := []) (rest := []) dX9_number_10 lk_X9_87 rfl hf (fun w1 e1 => zc_X9_next (by omega) e1) (by omega) rfl rfl (Nat.le_of_ble_eq_true rfl) fun y2 hf => ?_
    refine z_cS_i (d' := d - 1) (As := [.int y2.1]) (rest := []) dX9_number_13 lk_X9_104 hf (fun w1 e1 => zc_X9_isDigit (by omega) e1) (by omega) rfl rfl (Nat.le_of_ble_eq_true rfl) fun y3 hf => ?_
    refine z_if_ne 31 dX9_number_16 (by decide) hf (fun hf => ?_) (fun hf => ?_)
    · refine z_aload_n 0 dX9_number_19 rfl rfl ?_
      refine z_bipush (-2 : Int32) dX9_number_20 (by decide) ?_
      refine z_aload_n 0 dX9_number_22 rfl rfl ?_
      refine z_getI dX9_number_23 zc9 (by decide) wf_X9_67 hf fun x19 hf => ?_
      refine z_cV_v (d' := d - 1) (As := [.int (-2 : Int32), .int x19]) (rest := []) dX9_number_26 lk_X9_100 rfl hf (fun w1 e1 => zc_X9_report (by omega) e1) (by omega) rfl rfl (Nat.le_of_ble_eq_true rfl) fun y20 hf => ?_
      refine z_iconst (0 : Int32) dX9_number_29 (by decide) ?_
      exact z_iret dX9_number_30 rfl (by cases hf; rfl)
    · refine z_aload_n 0 dX9_number_31 rfl rfl ?_
      refine z_aload_n 0 dX9_number_32 rfl rfl ?_
      refine z_getI dX9_number_33 zc9 (by decide) wf_X9_67 hf fun x4 hf => ?_
      refine z_putB dX9_number_36 zc9 (by decide) wf_X9_108 (Or.inl rfl) rfl rfl hf fun h5 hf => ?_
      refine z_iconst (0 : Int32) dX9_number_39 (by decide) ?_
      refine z_istore_n [(3, .int (0 : Int32)), (0, .ref a), (1, .int p1), (2, .int p2)] dX9_number_40 rfl (by decide) rfl ?_
      refine Z.sub [1, 2, 3, 0] rfl (zl_X9_number_41 hd (fun u14 h15 hf => ?_) N (0 : Int32) h5 hf)
      · refine z_iload_n 3 dX9_number_90 rfl rfl ?_
        refine z_iload_n 1 dX9_number_91 rfl rfl ?_
        refine z_iload_n 2 dX9_number_92 rfl rfl ?_
        refine z_cS_i (d' := d - 1) (As := [.int u14, .int p1, .int p2]) (rest := []) dX9_number_93 lk_X9_79 hf (fun w1 e1 => zc_X9_in (by omega) e1) (by omega) rfl rfl (Nat.le_of_ble_eq_true rfl) fun y16 hf => ?_
        refine z_if_ne 109 dX9_number_96 (by decide) hf (fun hf => ?_) (fun hf => ?_)
        · refine z_aload_n 0 dX9_number_99 rfl rfl ?_
          refine z_bipush (-3 : Int32) dX9_number_100 (by decide) ?_
          refine z_aload_n 0 dX9_number_102 rfl rfl ?_
          refine z_getI dX9_number_103 zc9 (by decide) wf_X9_108 hf fun x17 hf => ?_
          refine z_cV_v (d' := d - 1) (As := [.int (-3 : Int32), .int x17]) (rest := []) dX9_number_106 lk_X9_100 rfl hf (fun w1 e1 => zc_X9_report (by omega) e1) (by omega) rfl rfl (Nat.le_of_ble_eq_true rfl) fun y18 hf => ?_
          refine z_iload_n 3 dX9_number_109 rfl rfl ?_
          exact z_iret dX9_number_110 rfl (by cases hf; rfl)
        · refine z_iload_n 3 dX9_number_109 rfl rfl ?_
          exact z_iret dX9_number_110 rfl (by cases hf; rfl)
set_option maxRecDepth 4000 in
theorem zc_X9_expect {Γ : zG} {N d : Nat} (hd : 12 ≤ d) {a : Nat} {p1 : Int32} {h : zH} {w : zH} (hf : f_X9_expect N a p1 h = some w) : Zm Γ m_X9_expect d [.ref a, .int p1] h (zoV w) := by
  unfold f_X9_expect at hf
  refine z_meth rfl (plainFor_of_name wpl_X9) (by simp [lg_sl, Value.category, zml, m_X9_expect]) ?_
  refine z_aload_n 0 dX9_expect_0 rfl rfl ?_
  refine z_cV_i (d' := d - 1) (As := []) (rest := []) dX9_expect_1 lk_X9_83 rfl hf (fun w1 e1 => zc_X9_isGood (by omega) e1) (by omega) rfl rfl (Nat.le_of_ble_eq_true rfl) fun y1 hf => ?_
  refine z_if_ne 8 dX9_expect_4 (by decide) hf (fun hf => ?_) (fun hf => ?_)
  · exact z_vret dX9_expect_7 rfl (by cases hf; rfl)
  · refine z_aload_n 0 dX9_expect_8 rfl rfl ?_
    refine z_cV_i (d' := d - 1) (As := []) (rest := []) dX9_expect_9 lk_X9_87 rfl hf (fun w1 e1 => zc_X9_next (by omega) e1) (by omega) rfl rfl (Nat.le_of_ble_eq_true rfl) fun y2 hf => ?_
    refine z_iload_n 1 dX9_expect_12 rfl rfl ?_
    refine z_icmp_ne 29 dX9_expect_13 (by decide) hf (fun hf => ?_) (fun hf => ?_)
    · refine z_aload_n 0 dX9_expect_16 rfl rfl ?_
      refine z_dup dX9_expect_17 rfl ?_
      refine z_getI dX9_expect_18 zc9 (by decide) wf_X9_67 hf fun x5 hf => ?_
      refine z_iconst (1 : Int32) dX9_expect_21 (by decide) ?_
      refine z_iadd dX9_expect_22 ?_
      refine z_putB dX9_expect_23 zc9 (by decide) wf_X9_67 (Or.inl rfl) rfl rfl hf fun h6 hf => ?_
      refine z_goto 39 dX9_expect_26 (by decide) ?_
      exact z_vret dX9_expect_39 rfl (by cases hf; rfl)
    · refine z_aload_n 0 dX9_expect_29 rfl rfl ?_
      refine z_bipush (-2 : Int32) dX9_expect_30 (by decide) ?_
      refine z_aload_n 0 dX9_expect_32 rfl rfl ?_
      refine z_getI dX9_expect_33 zc9 (by decide) wf_X9_67 hf fun x3 hf => ?_
      refine z_cV_v (d' := d - 1) (As := [.int (-2 : Int32), .int x3]) (rest := []) dX9_expect_36 lk_X9_100 rfl hf (fun w1 e1 => zc_X9_report (by omega) e1) (by omega) rfl rfl (Nat.le_of_ble_eq_true rfl) fun y4 hf => ?_
      exact z_vret dX9_expect_39 rfl (by cases hf; rfl)
set_option maxRecDepth 4000 in
theorem zj_X9_readPlayer_17 {Γ : zG} {N d : Nat} {h0 : zH} (hd : 13 ≤ d) {v0 : Nat}  {h : zH} {w : zH} (hf : f_X9_readPlayer_j17 N v0  h = some w) : Z Γ m_X9_readPlayer d h0 (zoV w) 17 [(0, .ref v0)] [] h := by
  unfold f_X9_readPlayer_j17 at hf
  refine z_aload_n 0 dX9_readPlayer_17 rfl rfl ?_
  refine z_iconst (0 : Int32) dX9_readPlayer_18 (by decide) ?_
  refine z_ldc (99999 : Int32) dX9_readPlayer_19 wk_X9_157 ?_
  refine z_cV_i (d' := d - 1) (As := [.int (0 : Int32), .int (99999 : Int32)]) (rest := []) dX9_readPlayer_21 lk_X9_138 rfl hf (fun w1 e1 => zc_X9_number (by omega) e1) (by omega) rfl rfl (Nat.le_of_ble_eq_true rfl) fun y3 hf => ?_
  refine z_istore_n [(2, .int y3.1), (0, .ref v0)] dX9_readPlayer_24 rfl (by decide) rfl ?_
  refine z_aload_n 1 dX9_readPlayer_25 rfl rfl ?_
  refine z_cV_i (d' := d - 1) (As := []) (rest := []) dX9_readPlayer_26 lk_X9_83 rfl hf (fun w1 e1 => zc_X9_isGood (by omega) e1) (by omega) rfl rfl (Nat.le_of_ble_eq_true rfl) fun y4 hf => ?_
  refine z_if_ne 33 dX9_readPlayer_29 (by decide) hf (fun hf => ?_) (fun hf => ?_)
  · exact z_vret dX9_readPlayer_32 rfl (by cases hf; rfl)
  · refine z_aload_n 1 dX9_readPlayer_33 rfl rfl ?_
    refine z_getA dX9_readPlayer_34 zc9 (by decide) wf_X9_20 hf fun x5 hf => ?_
    refine z_bipush (11 : Int32) dX9_readPlayer_37 (by decide) ?_
    refine z_bipush (19 : Int32) dX9_readPlayer_39 (by decide) ?_
    refine z_aload_n 1 dX9_readPlayer_41 rfl rfl ?_
    refine z_getA dX9_readPlayer_42 zc9 (by decide) wf_X9_20 hf fun x6 hf => ?_
    refine z_iconst (1 : Int32) dX9_readPlayer_45 (by decide) ?_
    refine z_iaload dX9_readPlayer_46 hf fun x7 hf => ?_
    refine z_imul dX9_readPlayer_47 ?_
    refine z_iadd dX9_readPlayer_48 ?_
    refine z_iconst (0 : Int32) dX9_readPlayer_49 (by decide) ?_
    refine z_iadd dX9_readPlayer_50 ?_
    refine z_iload_n 0 dX9_readPlayer_51 rfl rfl ?_
    refine z_iastore dX9_readPlayer_52 hf fun h8 hf => ?_
    refine z_aload_n 1 dX9_readPlayer_53 rfl rfl ?_
    refine z_getA dX9_readPlayer_54 zc9 (by decide) wf_X9_20 hf fun x9 hf => ?_
    refine z_iconst (1 : Int32) dX9_readPlayer_57 (by decide) ?_
    refine z_dup2 dX9_readPlayer_58 rfl rfl ?_
    refine z_iaload dX9_readPlayer_59 hf fun x10 hf => ?_
    refine z_iconst (1 : Int32) dX9_readPlayer_60 (by decide) ?_
    refine z_iadd dX9_readPlayer_61 ?_
    refine z_iastore dX9_readPlayer_62 hf fun h11 hf => ?_
    exact z_vret dX9_readPlayer_63 rfl (by cases hf; rfl)
set_option maxRecDepth 4000 in
theorem zc_X9_readPlayer {Γ : zG} {N d : Nat} (hd : 13 ≤ d) {a : Nat} {p1 : Int32} {h : zH} {w : zH} (hf : f_X9_readPlayer N a p1 h = some w) : Zm Γ m_X9_readPlayer d [.ref a, .int p1] h (zoV w) := by
  unfold f_X9_readPlayer at hf
  refine z_meth rfl (plainFor_of_name wpl_X9) (by simp [lg_sl, Value.category, zml, m_X9_readPlayer]) ?_
  refine z_aload_n 0 dX9_readPlayer_0 rfl rfl ?_
  refine z_getA dX9_readPlayer_1 zc9 (by decide) wf_X9_20 hf fun x1 hf => ?_
  refine z_iconst (1 : Int32) dX9_readPlayer_4 (by decide) ?_
  refine z_iaload dX9_readPlayer_5 hf fun x2 hf => ?_
  refine z_iconst (5 : Int32) dX9_readPlayer_6 (by decide) ?_
  refine z_icmp_ne 17 dX9_readPlayer_7 (by decide) hf (fun hf => ?_) (fun hf => ?_)
  · refine z_aload_n 0 dX9_readPlayer_10 rfl rfl ?_
    refine z_bipush (-4 : Int32) dX9_readPlayer_11 (by decide) ?_
    refine z_iload_n 1 dX9_readPlayer_13 rfl rfl ?_
    refine z_cV_v (d' := d - 1) (As := [.int (-4 : Int32), .int p1]) (rest := []) dX9_readPlayer_14 lk_X9_100 rfl hf (fun w1 e1 => zc_X9_report (by omega) e1) (by omega) rfl rfl (Nat.le_of_ble_eq_true rfl) fun y12 hf => ?_
    exact Z.sub [0] rfl (zj_X9_readPlayer_17 hd hf)
  · exact Z.sub [0] rfl (zj_X9_readPlayer_17 hd hf)
set_option maxRecDepth 4000 in
theorem zl_X9_isElement_21 {Γ : zG} {N d : Nat} {h0 : zH} (hd : 10 ≤ d) {v1 : Int32} {k1 : Int32 → Int32 → zH → Option (Int32 × zH)} {w : Int32 × zH}  (hk1 : ∀ (v2 : Int32) (v4 : Int32) (h : zH), k1 v2 v4 h = some w → Z Γ m_X9_isElement d h0 (zoI w) 63 [(1, .int v1), (2, .int v2), (4, .int v4)] [] h) : ∀ (n : Nat) (v2 : Int32) (v3 : Int32) (v4 : Int32) (h : zH), f_X9_isElement_l21 N v1 k1 n v2 v3 v4 h = some w → Z Γ m_X9_isElement d h0 (zoI w) 21 [(1, .int v1), (2, .int v2), (3, .int v3), (4, .int v4)] [] h := by
  intro n
  induction n with
  | zero => intro v2 v3 v4 h hf; cases hf
  | succ n ih =>
    intro v2 v3 v4 h hf
    rw [f_X9_isElement_l21] at hf
    refine z_iload_n 2 dX9_isElement_21 rfl rfl ?_
    refine z_if_le 63 dX9_isElement_22 (by decide) hf (fun hf => ?_) (fun hf => ?_)
    · exact Z.sub [0, 1, 3] rfl (hk1 v2 v4 h hf)
    · refine z_iload_n 2 dX9_isElement_25 rfl rfl ?_
      refine z_bipush (10 : Int32) dX9_isElement_26 (by decide) ?_
      refine z_irem dX9_isElement_28 hf fun x1 hf => ?_
      refine z_istore [(5, .int x1), (1, .int v1), (2, .int v2), (3, .int v3), (4, .int v4)] dX9_isElement_29 (by decide) rfl ?_
      refine z_iload 0 dX9_isElement_31 rfl ?_
      refine z_iconst (1 : Int32) dX9_isElement_33 (by decide) ?_
      refine z_icmp_lt 43 dX9_isElement_34 (by decide) hf (fun hf => ?_) (fun hf => ?_)
      · refine z_iconst (0 : Int32) dX9_isElement_43 (by decide) ?_
        exact z_zret dX9_isElement_44 rfl (Or.inl rfl) (by cases hf; rfl)
      · refine z_iload 0 dX9_isElement_37 rfl ?_
        refine z_iload_n 1 dX9_isElement_39 rfl rfl ?_
        refine z_icmp_le 45 dX9_isElement_40 (by decide) hf (fun hf => ?_) (fun hf => ?_)
        · refine z_iload_n 2 dX9_isElement_45 rfl rfl ?_
          refine z_iconst (1 : Int32) dX9_isElement_46 (by decide) ?_
          refine z_iload 0 dX9_isElement_47 rfl ?_
          refine z_ishl dX9_isElement_49 ?_
          refine z_ior dX9_isElement_50 ?_
          refine z_istore_n [(2, .int (v2 ||| ((1 : Int32) <<< (x1 &&& 31)))), (5, .int x1), (1, .int v1), (3, .int v3), (4, .int v4)] dX9_isElement_51 rfl (by decide) rfl ?_
          refine z_iinc (v4 + (1 : Int32)) 4 [(4, .int (v4 + (1 : Int32))), (2, .int (v2 ||| ((1 : Int32) <<< (x1 &&& 31)))), (5, .int x1), (1, .int v1), (3, .int v3)] dX9_isElement_52 rfl rfl (by decide) rfl ?_
          refine z_iload_n 4 dX9_isElement_55 rfl rfl ?_
          refine z_bipush (10 : Int32) dX9_isElement_56 (by decide) ?_
          refine z_idiv dX9_isElement_58 hf fun x2 hf => ?_
          refine z_istore_n [(3, .int x2), (4, .int (v4 + (1 : Int32))), (2, .int (v2 ||| ((1 : Int32) <<< (x1 &&& 31)))), (5, .int x1), (1, .int v1)] dX9_isElement_59 rfl (by decide) rfl ?_
          refine z_goto 21 dX9_isElement_60 (by decide) ?_
          exact Z.sub [4, 2, 0, 1] rfl (ih (v2 ||| ((1 : Int32) <<< (x1 &&& 31))) x2 (v4 + (1 : Int32)) h hf)
        · refine z_iconst (0 : Int32) dX9_isElement_43 (by decide) ?_
          exact z_zret dX9_isElement_44 rfl (Or.inl rfl) (by cases hf; rfl)
set_option maxRecDepth 4000 in
theorem zc_X9_isElement {Γ : zG} {N d : Nat} (hd : 10 ≤ d) {p1 : Int32} {p2 : Int32} {h : zH} {w : Int32 × zH} (hf : f_X9_isElement N p1 p2 h = some w) : Zm Γ m_X9_isElement d [.int p1, .int p2] h (zoI w) := by
  unfold f_X9_isElement at hf
  refine z_meth rfl (plainFor_of_name wpl_X9) (by simp [lg_sl, Value.category, zml, m_X9_isElement]) ?_
  refine z_iload_n 0 dX9_isElement_0 rfl rfl ?_
  refine z_bipush (12 : Int32) dX9_isElement_1 (by decide) ?_
  refine z_icmp_lt 12 dX9_isElement_3 (by decide) hf (fun hf => ?_) (fun hf => ?_)
  · refine z_iconst (0 : Int32) dX9_isElement_12 (by decide) ?_
    exact z_zret dX9_isElement_13 rfl (Or.inl rfl) (by cases hf; rfl)
  · refine z_iload_n 0 dX9_isElement_6 rfl rfl ?_
    refine z_ldc (54321 : Int32) dX9_isElement_7 wk_X9_49 ?_
    refine z_icmp_le 14 dX9_isElement_9 (by decide) hf (fun hf => ?_) (fun hf => ?_)
    · refine z_iconst (0 : Int32) dX9_isElement_14 (by decide) ?_
      refine z_istore_n [(2, .int (0 : Int32)), (0, .int p1), (1, .int p2)] dX9_isElement_15 rfl (by decide) rfl ?_
      refine z_iload_n 1 dX9_isElement_16 rfl rfl ?_
      refine z_istore_n [(3, .int p1), (2, .int (0 : Int32)), (0, .int p1), (1, .int p2)] dX9_isElement_17 rfl (by decide) rfl ?_
      refine z_iconst (0 : Int32) dX9_isElement_18 (by decide) ?_
      refine z_istore [(4, .int (0 : Int32)), (3, .int p1), (2, .int (0 : Int32)), (0, .int p1), (1, .int p2)] dX9_isElement_19 (by decide) rfl ?_
      refine Z.sub [4, 2, 1, 0] rfl (zl_X9_isElement_21 hd (fun u3 u4 h5 hf => ?_) N (0 : Int32) p1 (0 : Int32) h hf)
      · refine z_iload 2 dX9_isElement_63 rfl ?_
        refine z_iload_n 0 dX9_isElement_65 rfl rfl ?_
        refine z_icmp_ne 84 dX9_isElement_66 (by decide) hf (fun hf => ?_) (fun hf => ?_)
        · refine z_iload_n 1 dX9_isElement_69 rfl rfl ?_
          refine z_iconst (1 : Int32) dX9_isElement_70 (by decide) ?_
          refine z_iload_n 0 dX9_isElement_71 rfl rfl ?_
          refine z_iconst (1 : Int32) dX9_isElement_72 (by decide) ?_
          refine z_iadd dX9_isElement_73 ?_
          refine z_ishl dX9_isElement_74 ?_
          refine z_iconst (2 : Int32) dX9_isElement_75 (by decide) ?_
          refine z_isub dX9_isElement_76 ?_
          refine z_icmp_ne 84 dX9_isElement_77 (by decide) hf (fun hf => ?_) (fun hf => ?_)
          · refine z_iconst (1 : Int32) dX9_isElement_80 (by decide) ?_
            refine z_goto 85 dX9_isElement_81 (by decide) ?_
            exact z_zret dX9_isElement_85 rfl (Or.inr rfl) (by cases hf; rfl)
          · refine z_iconst (0 : Int32) dX9_isElement_84 (by decide) ?_
            exact z_zret dX9_isElement_85 rfl (Or.inl rfl) (by cases hf; rfl)
        · refine z_iconst (0 : Int32) dX9_isElement_84 (by decide) ?_
          exact z_zret dX9_isElement_85 rfl (Or.inl rfl) (by cases hf; rfl)
    · refine z_iconst (0 : Int32) dX9_isElement_12 (by decide) ?_
      exact z_zret dX9_isElement_13 rfl (Or.inl rfl) (by cases hf; rfl)
set_option maxRecDepth 4000 in
theorem zc_X9_readElement {Γ : zG} {N d : Nat} (hd : 13 ≤ d) {a : Nat} {h : zH} {w : Int32 × zH} (hf : f_X9_readElement N a h = some w) : Zm Γ m_X9_readElement d [.ref a] h (zoI w) := by
  unfold f_X9_readElement at hf
  refine z_meth rfl (plainFor_of_name wpl_X9) (by simp [lg_sl, Value.category, zml, m_X9_readElement]) ?_
  refine z_aload_n 0 dX9_readElement_0 rfl rfl ?_
  refine z_iconst (0 : Int32) dX9_readElement_1 (by decide) ?_
  refine z_ldc (54321 : Int32) dX9_readElement_2 wk_X9_49 ?_
  refine z_cV_i (d' := d - 1) (As := [.int (0 : Int32), .int (54321 : Int32)]) (rest := []) dX9_readElement_4 lk_X9_138 rfl hf (fun w1 e1 => zc_X9_number (by omega) e1) (by omega) rfl rfl (Nat.le_of_ble_eq_true rfl) fun y1 hf => ?_
  refine z_istore_n [(1, .int y1.1), (0, .ref a)] dX9_readElement_7 rfl (by decide) rfl ?_
  refine z_aload_n 1 dX9_readElement_8 rfl rfl ?_
  refine z_cV_i (d' := d - 1) (As := []) (rest := []) dX9_readElement_9 lk_X9_83 rfl hf (fun w1 e1 => zc_X9_isGood (by omega) e1) (by omega) rfl rfl (Nat.le_of_ble_eq_true rfl) fun y2 hf => ?_
  refine z_if_eq 38 dX9_readElement_12 (by decide) hf (fun hf => ?_) (fun hf => ?_)
  · refine z_iload_n 0 dX9_readElement_38 rfl rfl ?_
    exact z_iret dX9_readElement_39 rfl (by cases hf; rfl)
  · refine z_iload_n 0 dX9_readElement_15 rfl rfl ?_
    refine z_aload_n 1 dX9_readElement_16 rfl rfl ?_
    refine z_getA dX9_readElement_17 zc9 (by decide) wf_X9_20 hf fun x3 hf => ?_
    refine z_iconst (0 : Int32) dX9_readElement_20 (by decide) ?_
    refine z_iaload dX9_readElement_21 hf fun x4 hf => ?_
    refine z_cS_i (d' := d - 1) (As := [.int y1.1, .int x4]) (rest := []) dX9_readElement_22 lk_X9_153 hf (fun w1 e1 => zc_X9_isElement (by omega) e1) (by omega) rfl rfl (Nat.le_of_ble_eq_true rfl) fun y5 hf => ?_
    refine z_if_ne 38 dX9_readElement_25 (by decide) hf (fun hf => ?_) (fun hf => ?_)
    · refine z_aload_n 1 dX9_readElement_28 rfl rfl ?_
      refine z_bipush (-3 : Int32) dX9_readElement_29 (by decide) ?_
      refine z_aload_n 1 dX9_readElement_31 rfl rfl ?_
      refine z_getI dX9_readElement_32 zc9 (by decide) wf_X9_108 hf fun x6 hf => ?_
      refine z_cV_v (d' := d - 1) (As := [.int (-3 : Int32), .int x6]) (rest := []) dX9_readElement_35 lk_X9_100 rfl hf (fun w1 e1 => zc_X9_report (by omega) e1) (by omega) rfl rfl (Nat.le_of_ble_eq_true rfl) fun y7 hf => ?_
      refine z_iload_n 0 dX9_readElement_38 rfl rfl ?_
      exact z_iret dX9_readElement_39 rfl (by cases hf; rfl)
    · refine z_iload_n 0 dX9_readElement_38 rfl rfl ?_
      exact z_iret dX9_readElement_39 rfl (by cases hf; rfl)
set_option maxRecDepth 4000 in
theorem zc_X9_putCard {Γ : zG} {N d : Nat} (hd : 10 ≤ d) {p1 : Nat} {p2 : Int32} {p3 : Int32} {p4 : Int32} {h : zH} {w : zH} (hf : f_X9_putCard N p1 p2 p3 p4 h = some w) : Zm Γ m_X9_putCard d [.ref p1, .int p2, .int p3, .int p4] h (zoV w) := by
  unfold f_X9_putCard at hf
  refine z_meth rfl (plainFor_of_name wpl_X9) (by simp [lg_sl, Value.category, zml, m_X9_putCard]) ?_
  refine z_bipush (11 : Int32) dX9_putCard_0 (by decide) ?_
  refine z_bipush (19 : Int32) dX9_putCard_2 (by decide) ?_
  refine z_iload_n 1 dX9_putCard_4 rfl rfl ?_
  refine z_imul dX9_putCard_5 ?_
  refine z_iadd dX9_putCard_6 ?_
  refine z_istore [(4, .int ((11 : Int32) + ((19 : Int32) * p2))), (0, .ref p1), (1, .int p2), (2, .int p3), (3, .int p4)] dX9_putCard_7 (by decide) rfl ?_
  refine z_iload 0 dX9_putCard_9 rfl ?_
  refine z_iconst (3 : Int32) dX9_putCard_11 (by decide) ?_
  refine z_iadd dX9_putCard_12 ?_
  refine z_iconst (2 : Int32) dX9_putCard_13 (by decide) ?_
  refine z_aload_n 1 dX9_putCard_14 rfl rfl ?_
  refine z_iload 0 dX9_putCard_15 rfl ?_
  refine z_iconst (1 : Int32) dX9_putCard_17 (by decide) ?_
  refine z_iadd dX9_putCard_18 ?_
  refine z_iaload dX9_putCard_19 hf fun x1 hf => ?_
  refine z_imul dX9_putCard_20 ?_
  refine z_iadd dX9_putCard_21 ?_
  refine z_istore [(5, .int ((((11 : Int32) + ((19 : Int32) * p2)) + (3 : Int32)) + ((2 : Int32) * x1))), (4, .int ((11 : Int32) + ((19 : Int32) * p2))), (0, .ref p1), (1, .int p2), (2, .int p3), (3, .int p4)] dX9_putCard_22 (by decide) rfl ?_
  refine z_aload_n 2 dX9_putCard_24 rfl rfl ?_
  refine z_iload 0 dX9_putCard_25 rfl ?_
  refine z_iload_n 4 dX9_putCard_27 rfl rfl ?_
  refine z_iastore dX9_putCard_28 hf fun h2 hf => ?_
  refine z_aload_n 2 dX9_putCard_29 rfl rfl ?_
  refine z_iload 0 dX9_putCard_30 rfl ?_
  refine z_iconst (1 : Int32) dX9_putCard_32 (by decide) ?_
  refine z_iadd dX9_putCard_33 ?_
  refine z_iload_n 5 dX9_putCard_34 rfl rfl ?_
  refine z_iastore dX9_putCard_35 hf fun h3 hf => ?_
  refine z_aload_n 2 dX9_putCard_36 rfl rfl ?_
  refine z_iload 1 dX9_putCard_37 rfl ?_
  refine z_iconst (1 : Int32) dX9_putCard_39 (by decide) ?_
  refine z_iadd dX9_putCard_40 ?_
  refine z_dup2 dX9_putCard_41 rfl rfl ?_
  refine z_iaload dX9_putCard_42 hf fun x4 hf => ?_
  refine z_iconst (1 : Int32) dX9_putCard_43 (by decide) ?_
  refine z_iadd dX9_putCard_44 ?_
  refine z_iastore dX9_putCard_45 hf fun h5 hf => ?_
  exact z_vret dX9_putCard_46 rfl (by cases hf; rfl)
set_option maxRecDepth 4000 in
theorem zj_X9_readCard_50 {Γ : zG} {N d : Nat} {h0 : zH} (hd : 14 ≤ d) {v0 : Nat} {v1 : Int32}  {h : zH} {w : zH} (hf : f_X9_readCard_j50 N v0 v1  h = some w) : Z Γ m_X9_readCard d h0 (zoV w) 50 [(0, .ref v0), (1, .int v1)] [] h := by
  unfold f_X9_readCard_j50 at hf
  refine z_aload_n 0 dX9_readCard_50 rfl rfl ?_
  refine z_cV_i (d' := d - 1) (As := []) (rest := []) dX9_readCard_51 lk_X9_158 rfl hf (fun w1 e1 => zc_X9_readElement (by omega) e1) (by omega) rfl rfl (Nat.le_of_ble_eq_true rfl) fun y5 hf => ?_
  refine z_istore_n [(2, .int y5.1), (0, .ref v0), (1, .int v1)] dX9_readCard_54 rfl (by decide) rfl ?_
  refine z_aload_n 1 dX9_readCard_55 rfl rfl ?_
  refine z_iconst (1 : Int32) dX9_readCard_56 (by decide) ?_
  refine z_sipush (999 : Int32) dX9_readCard_57 (by decide) ?_
  refine z_cV_i (d' := d - 1) (As := [.int (1 : Int32), .int (999 : Int32)]) (rest := []) dX9_readCard_60 lk_X9_138 rfl hf (fun w1 e1 => zc_X9_number (by omega) e1) (by omega) rfl rfl (Nat.le_of_ble_eq_true rfl) fun y6 hf => ?_
  refine z_istore_n [(3, .int y6.1), (2, .int y5.1), (0, .ref v0), (1, .int v1)] dX9_readCard_63 rfl (by decide) rfl ?_
  refine z_aload_n 2 dX9_readCard_64 rfl rfl ?_
  refine z_cV_i (d' := d - 1) (As := []) (rest := []) dX9_readCard_65 lk_X9_83 rfl hf (fun w1 e1 => zc_X9_isGood (by omega) e1) (by omega) rfl rfl (Nat.le_of_ble_eq_true rfl) fun y7 hf => ?_
  refine z_if_eq 81 dX9_readCard_68 (by decide) hf (fun hf => ?_) (fun hf => ?_)
  · exact z_vret dX9_readCard_81 rfl (by cases hf; rfl)
  · refine z_aload_n 2 dX9_readCard_71 rfl rfl ?_
    refine z_getA dX9_readCard_72 zc9 (by decide) wf_X9_20 hf fun x8 hf => ?_
    refine z_iload_n 3 dX9_readCard_75 rfl rfl ?_
    refine z_iload_n 1 dX9_readCard_76 rfl rfl ?_
    refine z_iload_n 0 dX9_readCard_77 rfl rfl ?_
    refine z_cS_v (d' := d - 1) (As := [.ref x8, .int v1, .int y5.1, .int y6.1]) (rest := []) dX9_readCard_78 lk_X9_161 hf (fun w1 e1 => zc_X9_putCard (by omega) e1) (by omega) rfl rfl (Nat.le_of_ble_eq_true rfl) fun y9 hf => ?_
    exact z_vret dX9_readCard_81 rfl (by cases hf; rfl)
set_option maxRecDepth 4000 in
theorem zc_X9_readCard {Γ : zG} {N d : Nat} (hd : 14 ≤ d) {a : Nat} {h : zH} {w : zH} (hf : f_X9_readCard N a h = some w) : Zm Γ m_X9_readCard d [.ref a] h (zoV w) := by
  unfold f_X9_readCard at hf
  refine z_meth rfl (plainFor_of_name wpl_X9) (by simp [lg_sl, Value.category, zml, m_X9_readCard]) ?_
  refine z_aload_n 0 dX9_readCard_0 rfl rfl ?_
  refine z_iconst (0 : Int32) dX9_readCard_1 (by decide) ?_
  refine z_aload_n 0 dX9_readCard_2 rfl rfl ?_
  refine z_getA dX9_readCard_3 zc9 (by decide) wf_X9_20 hf fun x1 hf => ?_
  refine z_iconst (1 : Int32) dX9_readCard_6 (by decide) ?_
  refine z_iaload dX9_readCard_7 hf fun x2 hf => ?_
  refine z_iconst (1 : Int32) dX9_readCard_8 (by decide) ?_
  refine z_isub dX9_readCard_9 ?_
  refine z_cV_i (d' := d - 1) (As := [.int (0 : Int32), .int (x2 - (1 : Int32))]) (rest := []) dX9_readCard_10 lk_X9_138 rfl hf (fun w1 e1 => zc_X9_number (by omega) e1) (by omega) rfl rfl (Nat.le_of_ble_eq_true rfl) fun y3 hf => ?_
  refine z_istore_n [(1, .int y3.1), (0, .ref a)] dX9_readCard_13 rfl (by decide) rfl ?_
  refine z_aload_n 1 dX9_readCard_14 rfl rfl ?_
  refine z_cV_i (d' := d - 1) (As := []) (rest := []) dX9_readCard_15 lk_X9_83 rfl hf (fun w1 e1 => zc_X9_isGood (by omega) e1) (by omega) rfl rfl (Nat.le_of_ble_eq_true rfl) fun y4 hf => ?_
  refine z_if_eq 50 dX9_readCard_18 (by decide) hf (fun hf => ?_) (fun hf => ?_)
  · exact Z.sub [1, 0] rfl (zj_X9_readCard_50 hd hf)
  · refine z_aload_n 1 dX9_readCard_21 rfl rfl ?_
    refine z_getA dX9_readCard_22 zc9 (by decide) wf_X9_20 hf fun x10 hf => ?_
    refine z_bipush (11 : Int32) dX9_readCard_25 (by decide) ?_
    refine z_bipush (19 : Int32) dX9_readCard_27 (by decide) ?_
    refine z_iload_n 0 dX9_readCard_29 rfl rfl ?_
    refine z_imul dX9_readCard_30 ?_
    refine z_iadd dX9_readCard_31 ?_
    refine z_iconst (1 : Int32) dX9_readCard_32 (by decide) ?_
    refine z_iadd dX9_readCard_33 ?_
    refine z_iaload dX9_readCard_34 hf fun x11 hf => ?_
    refine z_bipush (8 : Int32) dX9_readCard_35 (by decide) ?_
    refine z_icmp_ne 50 dX9_readCard_37 (by decide) hf (fun hf => ?_) (fun hf => ?_)
    · refine z_aload_n 1 dX9_readCard_40 rfl rfl ?_
      refine z_bipush (-4 : Int32) dX9_readCard_41 (by decide) ?_
      refine z_aload_n 1 dX9_readCard_43 rfl rfl ?_
      refine z_getI dX9_readCard_44 zc9 (by decide) wf_X9_108 hf fun x12 hf => ?_
      refine z_cV_v (d' := d - 1) (As := [.int (-4 : Int32), .int x12]) (rest := []) dX9_readCard_47 lk_X9_100 rfl hf (fun w1 e1 => zc_X9_report (by omega) e1) (by omega) rfl rfl (Nat.le_of_ble_eq_true rfl) fun y13 hf => ?_
      exact Z.sub [1, 0] rfl (zj_X9_readCard_50 hd hf)
    · exact Z.sub [1, 0] rfl (zj_X9_readCard_50 hd hf)
set_option maxRecDepth 4000 in
theorem zj_X9_readLot_18 {Γ : zG} {N d : Nat} {h0 : zH} (hd : 13 ≤ d) {v0 : Nat}  {h : zH} {w : zH} (hf : f_X9_readLot_j18 N v0  h = some w) : Z Γ m_X9_readLot d h0 (zoV w) 18 [(0, .ref v0)] [] h := by
  unfold f_X9_readLot_j18 at hf
  refine z_aload_n 0 dX9_readLot_18 rfl rfl ?_
  refine z_iconst (1 : Int32) dX9_readLot_19 (by decide) ?_
  refine z_sipush (9999 : Int32) dX9_readLot_20 (by decide) ?_
  refine z_cV_i (d' := d - 1) (As := [.int (1 : Int32), .int (9999 : Int32)]) (rest := []) dX9_readLot_23 lk_X9_138 rfl hf (fun w1 e1 => zc_X9_number (by omega) e1) (by omega) rfl rfl (Nat.le_of_ble_eq_true rfl) fun y3 hf => ?_
  refine z_istore_n [(2, .int y3.1), (0, .ref v0)] dX9_readLot_26 rfl (by decide) rfl ?_
  refine z_aload_n 1 dX9_readLot_27 rfl rfl ?_
  refine z_cV_i (d' := d - 1) (As := []) (rest := []) dX9_readLot_28 lk_X9_83 rfl hf (fun w1 e1 => zc_X9_isGood (by omega) e1) (by omega) rfl rfl (Nat.le_of_ble_eq_true rfl) fun y4 hf => ?_
  refine z_if_ne 35 dX9_readLot_31 (by decide) hf (fun hf => ?_) (fun hf => ?_)
  · exact z_vret dX9_readLot_34 rfl (by cases hf; rfl)
  · refine z_aload_n 1 dX9_readLot_35 rfl rfl ?_
    refine z_getA dX9_readLot_36 zc9 (by decide) wf_X9_20 hf fun x5 hf => ?_
    refine z_bipush (106 : Int32) dX9_readLot_39 (by decide) ?_
    refine z_aload_n 1 dX9_readLot_41 rfl rfl ?_
    refine z_getA dX9_readLot_42 zc9 (by decide) wf_X9_20 hf fun x6 hf => ?_
    refine z_iconst (2 : Int32) dX9_readLot_45 (by decide) ?_
    refine z_iaload dX9_readLot_46 hf fun x7 hf => ?_
    refine z_iadd dX9_readLot_47 ?_
    refine z_iload_n 0 dX9_readLot_48 rfl rfl ?_
    refine z_iastore dX9_readLot_49 hf fun h8 hf => ?_
    refine z_aload_n 1 dX9_readLot_50 rfl rfl ?_
    refine z_getA dX9_readLot_51 zc9 (by decide) wf_X9_20 hf fun x9 hf => ?_
    refine z_iconst (2 : Int32) dX9_readLot_54 (by decide) ?_
    refine z_dup2 dX9_readLot_55 rfl rfl ?_
    refine z_iaload dX9_readLot_56 hf fun x10 hf => ?_
    refine z_iconst (1 : Int32) dX9_readLot_57 (by decide) ?_
    refine z_iadd dX9_readLot_58 ?_
    refine z_iastore dX9_readLot_59 hf fun h11 hf => ?_
    exact z_vret dX9_readLot_60 rfl (by cases hf; rfl)
set_option maxRecDepth 4000 in
theorem zc_X9_readLot {Γ : zG} {N d : Nat} (hd : 13 ≤ d) {a : Nat} {p1 : Int32} {h : zH} {w : zH} (hf : f_X9_readLot N a p1 h = some w) : Zm Γ m_X9_readLot d [.ref a, .int p1] h (zoV w) := by
  unfold f_X9_readLot at hf
  refine z_meth rfl (plainFor_of_name wpl_X9) (by simp [lg_sl, Value.category, zml, m_X9_readLot]) ?_
  refine z_aload_n 0 dX9_readLot_0 rfl rfl ?_
  refine z_getA dX9_readLot_1 zc9 (by decide) wf_X9_20 hf fun x1 hf => ?_
  refine z_iconst (2 : Int32) dX9_readLot_4 (by decide) ?_
  refine z_iaload dX9_readLot_5 hf fun x2 hf => ?_
  refine z_bipush (12 : Int32) dX9_readLot_6 (by decide) ?_
  refine z_icmp_ne 18 dX9_readLot_8 (by decide) hf (fun hf => ?_) (fun hf => ?_)
  · refine z_aload_n 0 dX9_readLot_11 rfl rfl ?_
    refine z_bipush (-4 : Int32) dX9_readLot_12 (by decide) ?_
    refine z_iload_n 1 dX9_readLot_14 rfl rfl ?_
    refine z_cV_v (d' := d - 1) (As := [.int (-4 : Int32), .int p1]) (rest := []) dX9_readLot_15 lk_X9_100 rfl hf (fun w1 e1 => zc_X9_report (by omega) e1) (by omega) rfl rfl (Nat.le_of_ble_eq_true rfl) fun y12 hf => ?_
    exact Z.sub [0] rfl (zj_X9_readLot_18 hd hf)
  · exact Z.sub [0] rfl (zj_X9_readLot_18 hd hf)
set_option maxRecDepth 4000 in
theorem zj_X9_once_19 {Γ : zG} {N d : Nat} {h0 : zH} (hd : 11 ≤ d) {v0 : Nat} {v1 : Int32}  {h : zH} {w : zH} (hf : f_X9_once_j19 N v0 v1  h = some w) : Z Γ m_X9_once d h0 (zoV w) 19 [(0, .ref v0), (1, .int v1)] [] h := by
  unfold f_X9_once_j19 at hf
  refine z_aload_n 0 dX9_once_19 rfl rfl ?_
  refine z_dup dX9_once_20 rfl ?_
  refine z_getI dX9_once_21 zc9 (by decide) wf_X9_150 hf fun x2 hf => ?_
  refine z_iconst (1 : Int32) dX9_once_24 (by decide) ?_
  refine z_iload_n 1 dX9_once_25 rfl rfl ?_
  refine z_ishl dX9_once_26 ?_
  refine z_ior dX9_once_27 ?_
  refine z_putB dX9_once_28 zc9 (by decide) wf_X9_150 (Or.inl rfl) rfl rfl hf fun h3 hf => ?_
  exact z_vret dX9_once_31 rfl (by cases hf; rfl)
set_option maxRecDepth 4000 in
theorem zc_X9_once {Γ : zG} {N d : Nat} (hd : 11 ≤ d) {a : Nat} {p1 : Int32} {p2 : Int32} {h : zH} {w : zH} (hf : f_X9_once N a p1 p2 h = some w) : Zm Γ m_X9_once d [.ref a, .int p1, .int p2] h (zoV w) := by
  unfold f_X9_once at hf
  refine z_meth rfl (plainFor_of_name wpl_X9) (by simp [lg_sl, Value.category, zml, m_X9_once]) ?_
  refine z_aload_n 0 dX9_once_0 rfl rfl ?_
  refine z_getI dX9_once_1 zc9 (by decide) wf_X9_150 hf fun x1 hf => ?_
  refine z_iload_n 1 dX9_once_4 rfl rfl ?_
  refine z_ishr dX9_once_5 ?_
  refine z_iconst (1 : Int32) dX9_once_6 (by decide) ?_
  refine z_iand dX9_once_7 ?_
  refine z_iconst (1 : Int32) dX9_once_8 (by decide) ?_
  refine z_icmp_ne 19 dX9_once_9 (by decide) hf (fun hf => ?_) (fun hf => ?_)
  · refine z_aload_n 0 dX9_once_12 rfl rfl ?_
    refine z_bipush (-2 : Int32) dX9_once_13 (by decide) ?_
    refine z_iload_n 2 dX9_once_15 rfl rfl ?_
    refine z_cV_v (d' := d - 1) (As := [.int (-2 : Int32), .int p2]) (rest := []) dX9_once_16 lk_X9_100 rfl hf (fun w1 e1 => zc_X9_report (by omega) e1) (by omega) rfl rfl (Nat.le_of_ble_eq_true rfl) fun y4 hf => ?_
    exact Z.sub [0, 1] rfl (zj_X9_once_19 hd hf)
  · exact Z.sub [0, 1] rfl (zj_X9_once_19 hd hf)
set_option maxRecDepth 4000 in
theorem zc_X9_emit {Γ : zG} {N d : Nat} (hd : 11 ≤ d) {a : Nat} {p1 : Int32} {h : zH} {w : zH} (hf : f_X9_emit N a p1 h = some w) : Zm Γ m_X9_emit d [.ref a, .int p1] h (zoV w) := by
  unfold f_X9_emit at hf
  refine z_meth rfl (plainFor_of_name wpl_X9) (by simp [lg_sl, Value.category, zml, m_X9_emit]) ?_
  refine z_aload_n 0 dX9_emit_0 rfl rfl ?_
  refine z_cV_i (d' := d - 1) (As := []) (rest := []) dX9_emit_1 lk_X9_83 rfl hf (fun w1 e1 => zc_X9_isGood (by omega) e1) (by omega) rfl rfl (Nat.le_of_ble_eq_true rfl) fun y1 hf => ?_
  refine z_if_ne 8 dX9_emit_4 (by decide) hf (fun hf => ?_) (fun hf => ?_)
  · exact z_vret dX9_emit_7 rfl (by cases hf; rfl)
  · refine z_aload_n 0 dX9_emit_8 rfl rfl ?_
    refine z_getA dX9_emit_9 zc9 (by decide) wf_X9_20 hf fun x2 hf => ?_
    refine z_sipush (178 : Int32) dX9_emit_12 (by decide) ?_
    refine z_aload_n 0 dX9_emit_15 rfl rfl ?_
    refine z_getA dX9_emit_16 zc9 (by decide) wf_X9_20 hf fun x3 hf => ?_
    refine z_bipush (10 : Int32) dX9_emit_19 (by decide) ?_
    refine z_iaload dX9_emit_21 hf fun x4 hf => ?_
    refine z_iadd dX9_emit_22 ?_
    refine z_iload_n 1 dX9_emit_23 rfl rfl ?_
    refine z_iastore dX9_emit_24 hf fun h5 hf => ?_
    refine z_aload_n 0 dX9_emit_25 rfl rfl ?_
    refine z_getA dX9_emit_26 zc9 (by decide) wf_X9_20 hf fun x6 hf => ?_
    refine z_bipush (10 : Int32) dX9_emit_29 (by decide) ?_
    refine z_dup2 dX9_emit_31 rfl rfl ?_
    refine z_iaload dX9_emit_32 hf fun x7 hf => ?_
    refine z_iconst (1 : Int32) dX9_emit_33 (by decide) ?_
    refine z_iadd dX9_emit_34 ?_
    refine z_iastore dX9_emit_35 hf fun h8 hf => ?_
    exact z_vret dX9_emit_36 rfl (by cases hf; rfl)
set_option maxRecDepth 4000 in
theorem zj_X9_factor_170 {Γ : zG} {N d : Nat} {h0 : zH} {rs : Nat → zH → Option (zH)} {dr : Nat} (hrs : ∀ (a : Nat) (h : zH) (w : zH), rs a h = some w → Zm Γ m_X9_sum dr [.ref a] h (zoV w)) (hd : 22 ≤ d ∧ dr + 1 ≤ d) {v0 : Nat} {v3 : Int32} {s0 : Nat} {s1 : Int32} {h : zH} {w : zH} (hf : f_X9_factor_j170 N rs v0 v3 s0 s1 h = some w) : Z Γ m_X9_factor d h0 (zoV w) 170 [(0, .ref v0), (3, .int v3)] [.int s1, .ref s0] h := by
  unfold f_X9_factor_j170 at hf
  refine z_cV_v (d' := d - 1) (As := [.int s1]) (rest := []) dX9_factor_170 lk_X9_141 rfl hf (fun w1 e1 => zc_X9_emit (by omega) e1) (by omega) rfl rfl (Nat.le_of_ble_eq_true rfl) fun y8 hf => ?_
  refine z_aload_n 0 dX9_factor_173 rfl rfl ?_
  refine z_iload_n 1 dX9_factor_174 rfl rfl ?_
  refine z_cV_v (d' := d - 1) (As := [.int v3]) (rest := []) dX9_factor_175 lk_X9_141 rfl hf (fun w1 e1 => zc_X9_emit (by omega) e1) (by omega) rfl rfl (Nat.le_of_ble_eq_true rfl) fun y9 hf => ?_
  exact z_vret dX9_factor_178 rfl (by cases hf; rfl)
set_option maxRecDepth 4000 in
theorem zj_X9_factor_159 {Γ : zG} {N d : Nat} {h0 : zH} {rs : Nat → zH → Option (zH)} {dr : Nat} (hrs : ∀ (a : Nat) (h : zH) (w : zH), rs a h = some w → Zm Γ m_X9_sum dr [.ref a] h (zoV w)) (hd : 22 ≤ d ∧ dr + 1 ≤ d) {v0 : Nat} {v2 : Int32} {s0 : Int32} {h : zH} {w : zH} (hf : f_X9_factor_j159 N rs v0 v2 s0 h = some w) : Z Γ m_X9_factor d h0 (zoV w) 159 [(0, .ref v0), (2, .int v2)] [.int s0] h := by
  unfold f_X9_factor_j159 at hf
  refine z_istore_n [(3, .int s0), (0, .ref v0), (2, .int v2)] dX9_factor_159 rfl (by decide) rfl ?_
  refine z_aload_n 1 dX9_factor_160 rfl rfl ?_
  refine z_iload_n 2 dX9_factor_161 rfl rfl ?_
  refine z_if_ge 169 dX9_factor_162 (by decide) hf (fun hf => ?_) (fun hf => ?_)
  · refine z_iconst (1 : Int32) dX9_factor_169 (by decide) ?_
    exact Z.sub [1, 0] rfl (zj_X9_factor_170 hrs hd hf)
  · refine z_iconst (0 : Int32) dX9_factor_165 (by decide) ?_
    refine z_goto 170 dX9_factor_166 (by decide) ?_
    exact Z.sub [1, 0] rfl (zj_X9_factor_170 hrs hd hf)
set_option maxRecDepth 4000 in
theorem zj_X9_factor_142 {Γ : zG} {N d : Nat} {h0 : zH} {rs : Nat → zH → Option (zH)} {dr : Nat} (hrs : ∀ (a : Nat) (h : zH) (w : zH), rs a h = some w → Zm Γ m_X9_sum dr [.ref a] h (zoV w)) (hd : 22 ≤ d ∧ dr + 1 ≤ d) {v0 : Nat} {s0 : Int32} {h : zH} {w : zH} (hf : f_X9_factor_j142 N rs v0 s0 h = some w) : Z Γ m_X9_factor d h0 (zoV w) 142 [(0, .ref v0)] [.int s0] h := by
  unfold f_X9_factor_j142 at hf
  refine z_istore_n [(2, .int s0), (0, .ref v0)] dX9_factor_142 rfl (by decide) rfl ?_
  refine z_iload_n 0 dX9_factor_143 rfl rfl ?_
  refine z_if_ge 158 dX9_factor_144 (by decide) hf (fun hf => ?_) (fun hf => ?_)
  · refine z_iload_n 0 dX9_factor_158 rfl rfl ?_
    exact Z.sub [1, 0] rfl (zj_X9_factor_159 hrs hd hf)
  · refine z_aload_n 1 dX9_factor_147 rfl rfl ?_
    refine z_iconst (0 : Int32) dX9_factor_148 (by decide) ?_
    refine z_sipush (9999 : Int32) dX9_factor_149 (by decide) ?_
    refine z_cV_i (d' := d - 1) (As := [.int (0 : Int32), .int (9999 : Int32)]) (rest := []) dX9_factor_152 lk_X9_138 rfl hf (fun w1 e1 => zc_X9_number (by omega) e1) (by omega) rfl rfl (Nat.le_of_ble_eq_true rfl) fun y10 hf => ?_
    refine z_goto 159 dX9_factor_155 (by decide) ?_
    exact Z.sub [1, 0] rfl (zj_X9_factor_159 hrs hd hf)
set_option maxRecDepth 4000 in
theorem zj_X9_factor_37 {Γ : zG} {N d : Nat} {h0 : zH} {rs : Nat → zH → Option (zH)} {dr : Nat} (hrs : ∀ (a : Nat) (h : zH) (w : zH), rs a h = some w → Zm Γ m_X9_sum dr [.ref a] h (zoV w)) (hd : 22 ≤ d ∧ dr + 1 ≤ d) {v0 : Nat}  {h : zH} {w : zH} (hf : f_X9_factor_j37 N rs v0  h = some w) : Z Γ m_X9_factor d h0 (zoV w) 37 [(0, .ref v0)] [] h := by
  unfold f_X9_factor_j37 at hf
  refine z_aload_n 0 dX9_factor_37 rfl rfl ?_
  refine z_dup dX9_factor_38 rfl ?_
  refine z_getI dX9_factor_39 zc9 (by decide) wf_X9_67 hf fun x12 hf => ?_
  refine z_iconst (1 : Int32) dX9_factor_42 (by decide) ?_
  refine z_iadd dX9_factor_43 ?_
  refine z_putB dX9_factor_44 zc9 (by decide) wf_X9_67 (Or.inl rfl) rfl rfl hf fun h13 hf => ?_
  refine z_aload_n 0 dX9_factor_47 rfl rfl ?_
  refine z_dup dX9_factor_48 rfl ?_
  refine z_getI dX9_factor_49 zc9 (by decide) wf_X9_116 hf fun x14 hf => ?_
  refine z_iconst (1 : Int32) dX9_factor_52 (by decide) ?_
  refine z_iadd dX9_factor_53 ?_
  refine z_putB dX9_factor_54 zc9 (by decide) wf_X9_116 (Or.inl rfl) rfl rfl hf fun h15 hf => ?_
  refine z_aload_n 0 dX9_factor_57 rfl rfl ?_
  refine z_cV_v (d' := dr) (As := []) (rest := []) dX9_factor_58 lk_X9_119 rfl hf (fun w1 e1 => hrs _  _ _ e1) (by omega) rfl rfl (Nat.le_of_ble_eq_true rfl) fun y16 hf => ?_
  refine z_aload_n 0 dX9_factor_61 rfl rfl ?_
  refine z_bipush (41 : Int32) dX9_factor_62 (by decide) ?_
  refine z_cV_v (d' := d - 1) (As := [.int (41 : Int32)]) (rest := []) dX9_factor_64 lk_X9_122 rfl hf (fun w1 e1 => zc_X9_expect (by omega) e1) (by omega) rfl rfl (Nat.le_of_ble_eq_true rfl) fun y17 hf => ?_
  refine z_aload_n 0 dX9_factor_67 rfl rfl ?_
  refine z_dup dX9_factor_68 rfl ?_
  refine z_getI dX9_factor_69 zc9 (by decide) wf_X9_116 hf fun x18 hf => ?_
  refine z_iconst (1 : Int32) dX9_factor_72 (by decide) ?_
  refine z_isub dX9_factor_73 ?_
  refine z_putB dX9_factor_74 zc9 (by decide) wf_X9_116 (Or.inl rfl) rfl rfl hf fun h19 hf => ?_
  exact z_vret dX9_factor_77 rfl (by cases hf; rfl)
set_option maxRecDepth 4000 in
theorem zc_X9_factor {Γ : zG} {N d : Nat} {rs : Nat → zH → Option (zH)} {dr : Nat} (hrs : ∀ (a : Nat) (h : zH) (w : zH), rs a h = some w → Zm Γ m_X9_sum dr [.ref a] h (zoV w)) (hd : 22 ≤ d ∧ dr + 1 ≤ d) {a : Nat} {h : zH} {w : zH} (hf : f_X9_factor N rs a h = some w) : Zm Γ m_X9_factor d [.ref a] h (zoV w) := by
  unfold f_X9_factor at hf
  refine z_meth rfl (plainFor_of_name wpl_X9) (by simp [lg_sl, Value.category, zml, m_X9_factor]) ?_
  refine z_aload_n 0 dX9_factor_0 rfl rfl ?_
  refine z_cV_i (d' := d - 1) (As := []) (rest := []) dX9_factor_1 lk_X9_83 rfl hf (fun w1 e1 => zc_X9_isGood (by omega) e1) (by omega) rfl rfl (Nat.le_of_ble_eq_true rfl) fun y1 hf => ?_
  refine z_if_ne 8 dX9_factor_4 (by decide) hf (fun hf => ?_) (fun hf => ?_)
  · exact z_vret dX9_factor_7 rfl (by cases hf; rfl)
  · refine z_aload_n 0 dX9_factor_8 rfl rfl ?_
    refine z_cV_i (d' := d - 1) (As := []) (rest := []) dX9_factor_9 lk_X9_87 rfl hf (fun w1 e1 => zc_X9_next (by omega) e1) (by omega) rfl rfl (Nat.le_of_ble_eq_true rfl) fun y2 hf => ?_
    refine z_istore_n [(1, .int y2.1), (0, .ref a)] dX9_factor_12 rfl (by decide) rfl ?_
    refine z_iload_n 0 dX9_factor_13 rfl rfl ?_
    refine z_bipush (40 : Int32) dX9_factor_14 (by decide) ?_
    refine z_icmp_ne 78 dX9_factor_16 (by decide) hf (fun hf => ?_) (fun hf => ?_)
    · refine z_aload_n 1 dX9_factor_19 rfl rfl ?_
      refine z_getI dX9_factor_20 zc9 (by decide) wf_X9_116 hf fun x11 hf => ?_
      refine z_iconst (4 : Int32) dX9_factor_23 (by decide) ?_
      refine z_icmp_ne 37 dX9_factor_24 (by decide) hf (fun hf => ?_) (fun hf => ?_)
      · refine z_aload_n 1 dX9_factor_27 rfl rfl ?_
        refine z_bipush (-5 : Int32) dX9_factor_28 (by decide) ?_
        refine z_aload_n 1 dX9_factor_30 rfl rfl ?_
        refine z_getI dX9_factor_31 zc9 (by decide) wf_X9_67 hf fun x20 hf => ?_
        refine z_cV_v (d' := d - 1) (As := [.int (-5 : Int32), .int x20]) (rest := []) dX9_factor_34 lk_X9_100 rfl hf (fun w1 e1 => zc_X9_report (by omega) e1) (by omega) rfl rfl (Nat.le_of_ble_eq_true rfl) fun y21 hf => ?_
        exact Z.sub [1] rfl (zj_X9_factor_37 hrs hd hf)
      · exact Z.sub [1] rfl (zj_X9_factor_37 hrs hd hf)
    · refine z_iload_n 0 dX9_factor_78 rfl rfl ?_
      refine z_cS_i (d' := d - 1) (As := [.int y2.1]) (rest := []) dX9_factor_79 lk_X9_104 hf (fun w1 e1 => zc_X9_isDigit (by omega) e1) (by omega) rfl rfl (Nat.le_of_ble_eq_true rfl) fun y3 hf => ?_
      refine z_if_eq 89 dX9_factor_82 (by decide) hf (fun hf => ?_) (fun hf => ?_)
      · refine z_aload_n 1 dX9_factor_89 rfl rfl ?_
        refine z_ldcS9 (i := 5) (by decide) rfl rfl dX9_factor_90 ?_
        refine z_cV_i (d' := d - 1) (As := [.ref (zKa Γ 5)]) (rest := []) dX9_factor_92 lk_X9_128 rfl hf (fun w1 e1 => zc_X9_takeWord (by omega) e1) (by omega) rfl rfl (Nat.le_of_ble_eq_true rfl) fun y4 hf => ?_
        refine z_if_eq 102 dX9_factor_95 (by decide) hf (fun hf => ?_) (fun hf => ?_)
        · refine z_aload_n 1 dX9_factor_102 rfl rfl ?_
          refine z_ldcS9 (i := 6) (by decide) rfl rfl dX9_factor_103 ?_
          refine z_cV_i (d' := d - 1) (As := [.ref (zKa Γ 6)]) (rest := []) dX9_factor_105 lk_X9_128 rfl hf (fun w1 e1 => zc_X9_takeWord (by omega) e1) (by omega) rfl rfl (Nat.le_of_ble_eq_true rfl) fun y5 hf => ?_
          refine z_if_eq 115 dX9_factor_108 (by decide) hf (fun hf => ?_) (fun hf => ?_)
          · refine z_aload_n 1 dX9_factor_115 rfl rfl ?_
            refine z_ldcS9 (i := 7) (by decide) rfl rfl dX9_factor_116 ?_
            refine z_cV_i (d' := d - 1) (As := [.ref (zKa Γ 7)]) (rest := []) dX9_factor_118 lk_X9_128 rfl hf (fun w1 e1 => zc_X9_takeWord (by omega) e1) (by omega) rfl rfl (Nat.le_of_ble_eq_true rfl) fun y6 hf => ?_
            refine z_if_eq 128 dX9_factor_121 (by decide) hf (fun hf => ?_) (fun hf => ?_)
            · refine z_aload_n 1 dX9_factor_128 rfl rfl ?_
              refine z_ldcS9 (i := 8) (by decide) rfl rfl dX9_factor_129 ?_
              refine z_cV_i (d' := d - 1) (As := [.ref (zKa Γ 8)]) (rest := []) dX9_factor_131 lk_X9_128 rfl hf (fun w1 e1 => zc_X9_takeWord (by omega) e1) (by omega) rfl rfl (Nat.le_of_ble_eq_true rfl) fun y7 hf => ?_
              refine z_if_eq 141 dX9_factor_134 (by decide) hf (fun hf => ?_) (fun hf => ?_)
              · refine z_iconst (-1 : Int32) dX9_factor_141 (by decide) ?_
                exact Z.sub [1] rfl (zj_X9_factor_142 hrs hd hf)
              · refine z_iconst (3 : Int32) dX9_factor_137 (by decide) ?_
                refine z_goto 142 dX9_factor_138 (by decide) ?_
                exact Z.sub [1] rfl (zj_X9_factor_142 hrs hd hf)
            · refine z_iconst (2 : Int32) dX9_factor_124 (by decide) ?_
              refine z_goto 142 dX9_factor_125 (by decide) ?_
              exact Z.sub [1] rfl (zj_X9_factor_142 hrs hd hf)
          · refine z_iconst (1 : Int32) dX9_factor_111 (by decide) ?_
            refine z_goto 142 dX9_factor_112 (by decide) ?_
            exact Z.sub [1] rfl (zj_X9_factor_142 hrs hd hf)
        · refine z_iconst (0 : Int32) dX9_factor_98 (by decide) ?_
          refine z_goto 142 dX9_factor_99 (by decide) ?_
          exact Z.sub [1] rfl (zj_X9_factor_142 hrs hd hf)
      · refine z_iconst (-1 : Int32) dX9_factor_85 (by decide) ?_
        refine z_goto 142 dX9_factor_86 (by decide) ?_
        exact Z.sub [1] rfl (zj_X9_factor_142 hrs hd hf)

set_option maxRecDepth 4000 in
theorem zc_X8_discard {Γ : zG} {N d : Nat} (hd : 15 ≤ d) {a : Nat} {p1 : Int32} {p2 : Int32} {h : zH} {w : (Int32 ⊕ Nat) × zH} (hf : f_X8_discard N a p1 p2 h = some w) : Zm Γ m_X8_discard d [.ref a, .int p1, .int p2] h (zoTI w) := by
  unfold f_X8_discard at hf
  refine z_meth rfl (plainFor_of_name wpl_X8) (by simp [lg_sl, Value.category, zml, m_X8_discard]) ?_
  refine z_aload_n 0 dX8_discard_0 rfl rfl ?_
  refine z_iload_n 1 dX8_discard_1 rfl rfl ?_
  refine z_cV_ta (d' := d - 1) (As := [.int p1]) (rest := []) dX8_discard_2 lk_X8_119 rfl hf (fun w1 e1 => zc_X8_existing (by omega) e1) (by omega) rfl rfl (Nat.le_of_ble_eq_true rfl) (fun y1 x2 hf => ?_) (fun y1 k3 hf => ?_)
  · refine z_astore_n [(3, .ref x2), (0, .ref a), (1, .int p1), (2, .int p2)] dX8_discard_5 rfl (by decide) rfl ?_
    refine z_aload_n 0 dX8_discard_6 rfl rfl ?_
    refine z_getA dX8_discard_7 zc1 (by decide) wf_X8_128 hf fun x4 hf => ?_
    refine z_iload_n 3 dX8_discard_10 rfl rfl ?_
    refine z_cV_i (d' := d - 1) (As := [.int p2]) (rest := []) dX8_discard_11 lk_X8_134 rfl hf (fun w1 e1 => zc_X6_holds (by omega) e1) (by omega) rfl rfl (Nat.le_of_ble_eq_true rfl) fun y5 hf => ?_
    refine z_if_ne 25 dX8_discard_14 (by decide) hf (fun hf => ?_) (fun hf => ?_)
    · exact z_throw 3 (by decide) dX8_discard_17 dX8_discard_20 dX8_discard_21 dX8_discard_24 wc_X8_138 wi_x3 wx_X8_140a wx_X8_140b (by omega) rfl (Nat.le_of_ble_eq_true rfl) (by cases hf; rfl)
    · refine z_aload_n 1 dX8_discard_25 rfl rfl ?_
      refine z_getA dX8_discard_26 zc8 (by decide) wf_X8_35 hf fun x6 hf => ?_
      refine z_aload_n 1 dX8_discard_29 rfl rfl ?_
      refine z_getA dX8_discard_30 zc8 (by decide) wf_X8_28 hf fun x7 hf => ?_
      refine z_cV_v (d' := d - 1) (As := [.ref x7]) (rest := []) dX8_discard_33 lk_X8_72 rfl hf (fun w1 e1 => zc_X4_remember (by omega) e1) (by omega) rfl rfl (Nat.le_of_ble_eq_true rfl) fun y8 hf => ?_
      refine z_aload_n 0 dX8_discard_36 rfl rfl ?_
      refine z_getA dX8_discard_37 zc1 (by decide) wf_X8_128 hf fun x9 hf => ?_
      refine z_iload_n 3 dX8_discard_40 rfl rfl ?_
      refine z_cV_i (d' := d - 1) (As := [.int p2]) (rest := []) dX8_discard_41 lk_X8_141 rfl hf (fun w1 e1 => zc_X6_at (by omega) e1) (by omega) rfl rfl (Nat.le_of_ble_eq_true rfl) fun y10 hf => ?_
      refine z_istore [(4, .int y10.1), (3, .ref x2), (0, .ref a), (1, .int p1), (2, .int p2)] dX8_discard_44 (by decide) rfl ?_
      refine z_aload_n 1 dX8_discard_46 rfl rfl ?_
      refine z_iload_n 4 dX8_discard_47 rfl rfl ?_
      refine z_cV_v (d' := d - 1) (As := [.int p2]) (rest := []) dX8_discard_48 lk_X8_225 rfl hf (fun w1 e1 => zc_X1_dropCard (by omega) e1) (by omega) rfl rfl (Nat.le_of_ble_eq_true rfl) fun y11 hf => ?_
      refine z_aload_n 2 dX8_discard_51 rfl rfl ?_
      refine z_iload 0 dX8_discard_52 rfl ?_
      refine z_cV_i (d' := d - 1) (As := [.int y10.1]) (rest := []) dX8_discard_54 lk_X8_144 rfl hf (fun w1 e1 => zc_X8_numberOf (by omega) e1) (by omega) rfl rfl (Nat.le_of_ble_eq_true rfl) fun y12 hf => ?_
      exact z_iret dX8_discard_57 rfl (by cases hf; rfl)
  · exact zx_out rfl (by cases hf; rfl)
set_option maxRecDepth 4000 in
theorem zc_L_discard {Γ : zG} {N d : Nat} (hd : 16 ≤ d) {p1 : Nat} {p2 : Int32} {p3 : Int32} {h : zH} {w : Int32 × zH} (hf : f_L_discard N p1 p2 p3 h = some w) : Zm Γ m_L_discard d [.ref p1, .int p2, .int p3] h (zoI w) := by
  unfold f_L_discard at hf
  refine z_methH (by decide) (by decide +kernel) (by simp [lg_sl, Value.category, zml, m_L_discard]) ?_
  refine z_aload_n 0 dL_discard_0 rfl rfl ?_
  refine z_iload_n 1 dL_discard_1 rfl rfl ?_
  refine z_iload_n 2 dL_discard_2 rfl rfl ?_
  refine z_cV_ti (d' := d - 1) (As := [.int p2, .int p3]) (rest := []) dL_discard_3 lk_L_109 rfl hf (fun w1 e1 => zc_X8_discard (by omega) e1) (by omega) rfl rfl (Nat.le_of_ble_eq_true rfl) (fun y1 x2 hf => ?_) (fun y1 k3 hf => ?_)
  · exact z_iret dL_discard_6 rfl (by cases hf; rfl)
  · by_cases e0 : k3 = 2
    · rw [if_pos e0] at hf
      subst e0
      refine zx_catch (by decide) [] (0, 6, 7, 50) [(0, 6, 11, 57)] rfl (fun z hz => absurd hz List.not_mem_nil) (by decide) (by decide) wc_L_50 wct_2 fun q4 => ?_
      refine z_astore_n [(3, .ref q4), (0, .ref p1), (1, .int p2), (2, .int p3)] dL_discard_7 rfl (by decide) rfl ?_
      refine z_ldc (-2000000097 : Int32) dL_discard_8 wk_L_52 ?_
      exact z_iret dL_discard_10 rfl (by cases hf; rfl)
    · rw [if_neg e0] at hf
      by_cases e1 : k3 = 3
      · rw [if_pos e1] at hf
        subst e1
        refine zx_catch (by decide) [(0, 6, 7, 50)] (0, 6, 11, 57) [] rfl (List.forall_mem_cons.mpr ⟨⟨by decide, 2, by decide, by decide, wc_L_50⟩, fun z hz => absurd hz List.not_mem_nil⟩) (by decide) (by decide) wc_L_57 wct_3 fun q5 => ?_
        refine z_astore_n [(3, .ref q5), (0, .ref p1), (1, .int p2), (2, .int p3)] dL_discard_11 rfl (by decide) rfl ?_
        refine z_ldc (-2000000100 : Int32) dL_discard_12 wk_L_59 ?_
        exact z_iret dL_discard_14 rfl (by cases hf; rfl)
      · rw [if_neg e1] at hf
        cases hf
set_option maxRecDepth 4000 in
theorem zc_X12_ends {Γ : zG} {N d : Nat} (hd : 10 ≤ d) {a : Nat} {h : zH} {w : zH} (hf : f_X12_ends N a h = some w) : Zm Γ m_X12_ends d [.ref a] h (zoV w) := by
  unfold f_X12_ends at hf
  refine z_meth rfl (plainFor_of_name wpl_X12) (by simp [lg_sl, Value.category, zml, m_X12_ends]) ?_
  refine z_aload_n 0 dX12_ends_0 rfl rfl ?_
  refine z_dup dX12_ends_1 rfl ?_
  refine z_getI dX12_ends_2 zc12 (by decide) wf_X12_40 hf fun x1 hf => ?_
  refine z_iconst (1 : Int32) dX12_ends_5 (by decide) ?_
  refine z_iadd dX12_ends_6 ?_
  refine z_putB dX12_ends_7 zc12 (by decide) wf_X12_40 (Or.inl rfl) rfl rfl hf fun h2 hf => ?_
  refine z_aload_n 0 dX12_ends_10 rfl rfl ?_
  refine z_iconst (0 : Int32) dX12_ends_11 (by decide) ?_
  refine z_nwQ 5 rfl dX12_ends_12 wc_X12_29 wo_5 hf fun y3 hf => ?_
  refine z_putB dX12_ends_15 zc12 (by decide) wf_X12_31 (Or.inl rfl) rfl rfl hf fun h4 hf => ?_
  refine z_aload_n 0 dX12_ends_18 rfl rfl ?_
  refine z_iconst (0 : Int32) dX12_ends_19 (by decide) ?_
  refine z_putB dX12_ends_20 zc12 (by decide) wf_X12_46 (Or.inl rfl) rfl rfl hf fun h5 hf => ?_
  refine z_aload_n 0 dX12_ends_23 rfl rfl ?_
  refine z_iconst (0 : Int32) dX12_ends_24 (by decide) ?_
  refine z_putB dX12_ends_25 zc12 (by decide) wf_X12_49 (Or.inl rfl) rfl rfl hf fun h6 hf => ?_
  exact z_vret dX12_ends_28 rfl (by cases hf; rfl)
set_option maxRecDepth 4000 in
theorem zj_X12_pass_49 {Γ : zG} {N d : Nat} {h0 : zH} (hd : 11 ≤ d) {v0 : Nat} {v1 : Int32}  {h : zH} {w : Int32 × zH} (hf : f_X12_pass_j49 N v0 v1  h = some w) : Z Γ m_X12_pass d h0 (zoI w) 49 [(0, .ref v0), (1, .int v1)] [] h := by
  unfold f_X12_pass_j49 at hf
  refine z_aload_n 0 dX12_pass_49 rfl rfl ?_
  refine z_aload_n 0 dX12_pass_50 rfl rfl ?_
  refine z_getI dX12_pass_51 zc12 (by decide) wf_X12_43 hf fun x6 hf => ?_
  refine z_iconst (1 : Int32) dX12_pass_54 (by decide) ?_
  refine z_iadd dX12_pass_55 ?_
  refine z_aload_n 0 dX12_pass_56 rfl rfl ?_
  refine z_getA dX12_pass_57 zc12 (by decide) wf_X12_13 hf fun x7 hf => ?_
  refine z_alen dX12_pass_60 hf fun x8 hf => ?_
  refine z_irem dX12_pass_61 hf fun x9 hf => ?_
  refine z_putB dX12_pass_62 zc12 (by decide) wf_X12_43 (Or.inl rfl) rfl rfl hf fun h10 hf => ?_
  refine z_iload_n 1 dX12_pass_65 rfl rfl ?_
  refine z_if_eq 73 dX12_pass_66 (by decide) hf (fun hf => ?_) (fun hf => ?_)
  · refine z_iconst (0 : Int32) dX12_pass_73 (by decide) ?_
    exact z_iret dX12_pass_74 rfl (by cases hf; rfl)
  · refine z_iconst (1 : Int32) dX12_pass_69 (by decide) ?_
    refine z_goto 74 dX12_pass_70 (by decide) ?_
    exact z_iret dX12_pass_74 rfl (by cases hf; rfl)
set_option maxRecDepth 4000 in
theorem zj_X12_pass_27 {Γ : zG} {N d : Nat} {h0 : zH} (hd : 11 ≤ d) {v0 : Nat} {s0 : Int32} {h : zH} {w : Int32 × zH} (hf : f_X12_pass_j27 N v0 s0 h = some w) : Z Γ m_X12_pass d h0 (zoI w) 27 [(0, .ref v0)] [.int s0] h := by
  unfold f_X12_pass_j27 at hf
  refine z_istore_n [(1, .int s0), (0, .ref v0)] dX12_pass_27 rfl (by decide) rfl ?_
  refine z_iload_n 0 dX12_pass_28 rfl rfl ?_
  refine z_if_eq 49 dX12_pass_29 (by decide) hf (fun hf => ?_) (fun hf => ?_)
  · exact Z.sub [1, 0] rfl (zj_X12_pass_49 hd hf)
  · refine z_aload_n 1 dX12_pass_32 rfl rfl ?_
    refine z_dup dX12_pass_33 rfl ?_
    refine z_getI dX12_pass_34 zc12 (by decide) wf_X12_52 hf fun x11 hf => ?_
    refine z_aload_n 1 dX12_pass_37 rfl rfl ?_
    refine z_getI dX12_pass_38 zc12 (by decide) wf_X12_46 hf fun x12 hf => ?_
    refine z_iadd dX12_pass_41 ?_
    refine z_putB dX12_pass_42 zc12 (by decide) wf_X12_52 (Or.inl rfl) rfl rfl hf fun h13 hf => ?_
    refine z_aload_n 1 dX12_pass_45 rfl rfl ?_
    refine z_cV_v (d' := d - 1) (As := []) (rest := []) dX12_pass_46 lk_X12_112 rfl hf (fun w1 e1 => zc_X12_ends (by omega) e1) (by omega) rfl rfl (Nat.le_of_ble_eq_true rfl) fun y14 hf => ?_
    exact Z.sub [1, 0] rfl (zj_X12_pass_49 hd hf)
set_option maxRecDepth 4000 in
theorem zc_X12_pass {Γ : zG} {N d : Nat} (hd : 11 ≤ d) {a : Nat} {h : zH} {w : Int32 × zH} (hf : f_X12_pass N a h = some w) : Zm Γ m_X12_pass d [.ref a] h (zoI w) := by
  unfold f_X12_pass at hf
  refine z_meth rfl (plainFor_of_name wpl_X12) (by simp [lg_sl, Value.category, zml, m_X12_pass]) ?_
  refine z_aload_n 0 dX12_pass_0 rfl rfl ?_
  refine z_dup dX12_pass_1 rfl ?_
  refine z_getI dX12_pass_2 zc12 (by decide) wf_X12_49 hf fun x1 hf => ?_
  refine z_iconst (1 : Int32) dX12_pass_5 (by decide) ?_
  refine z_iadd dX12_pass_6 ?_
  refine z_putB dX12_pass_7 zc12 (by decide) wf_X12_49 (Or.inl rfl) rfl rfl hf fun h2 hf => ?_
  refine z_aload_n 0 dX12_pass_10 rfl rfl ?_
  refine z_getI dX12_pass_11 zc12 (by decide) wf_X12_49 hf fun x3 hf => ?_
  refine z_aload_n 0 dX12_pass_14 rfl rfl ?_
  refine z_getA dX12_pass_15 zc12 (by decide) wf_X12_13 hf fun x4 hf => ?_
  refine z_alen dX12_pass_18 hf fun x5 hf => ?_
  refine z_icmp_ne 26 dX12_pass_19 (by decide) hf (fun hf => ?_) (fun hf => ?_)
  · refine z_iconst (1 : Int32) dX12_pass_22 (by decide) ?_
    refine z_goto 27 dX12_pass_23 (by decide) ?_
    exact Z.sub [0] rfl (zj_X12_pass_27 hd hf)
  · refine z_iconst (0 : Int32) dX12_pass_26 (by decide) ?_
    exact Z.sub [0] rfl (zj_X12_pass_27 hd hf)
set_option maxRecDepth 4000 in
theorem zc_X12_pay {Γ : zG} {N d : Nat} (hd : 11 ≤ d) {a : Nat} {p1 : Int32} {p2 : Int32} {h : zH} {w : zH} (hf : f_X12_pay N a p1 p2 h = some w) : Zm Γ m_X12_pay d [.ref a, .int p1, .int p2] h (zoV w) := by
  unfold f_X12_pay at hf
  refine z_meth rfl (plainFor_of_name wpl_X12) (by simp [lg_sl, Value.category, zml, m_X12_pay]) ?_
  refine z_aload_n 0 dX12_pay_0 rfl rfl ?_
  refine z_getA dX12_pay_1 zc12 (by decide) wf_X12_13 hf fun x1 hf => ?_
  refine z_iload_n 1 dX12_pay_4 rfl rfl ?_
  refine z_ldc (999999 : Int32) dX12_pay_5 wk_X12_96 ?_
  refine z_aload_n 0 dX12_pay_7 rfl rfl ?_
  refine z_getA dX12_pay_8 zc12 (by decide) wf_X12_13 hf fun x2 hf => ?_
  refine z_iload_n 1 dX12_pay_11 rfl rfl ?_
  refine z_iaload dX12_pay_12 hf fun x3 hf => ?_
  refine z_iload_n 2 dX12_pay_13 rfl rfl ?_
  refine z_iadd dX12_pay_14 ?_
  refine z_cS_i (d' := d - 1) (As := [.int (999999 : Int32), .int (x3 + p2)]) (rest := [.int p1, .ref x1]) dX12_pay_15 lk_X12_97 hf (fun w1 e1 => zc_J9_min_7cf53 (by omega) e1) (by omega) rfl rfl (Nat.le_of_ble_eq_true rfl) fun y4 hf => ?_
  refine z_iastore dX12_pay_18 hf fun h5 hf => ?_
  exact z_vret dX12_pay_19 rfl (by cases hf; rfl)
set_option maxRecDepth 4000 in
theorem zj_X12_finish_78 {Γ : zG} {N d : Nat} {h0 : zH} (hd : 12 ≤ d) {v0 : Nat} {v1 : Int32}  {h : zH} {w : Int32 × zH} (hf : f_X12_finish_j78 N v0 v1  h = some w) : Z Γ m_X12_finish d h0 (zoI w) 78 [(0, .ref v0), (1, .int v1)] [] h := by
  unfold f_X12_finish_j78 at hf
  refine z_aload_n 0 dX12_finish_78 rfl rfl ?_
  refine z_aload_n 0 dX12_finish_79 rfl rfl ?_
  refine z_getI dX12_finish_80 zc12 (by decide) wf_X12_43 hf fun x4 hf => ?_
  refine z_iconst (1 : Int32) dX12_finish_83 (by decide) ?_
  refine z_iadd dX12_finish_84 ?_
  refine z_aload_n 0 dX12_finish_85 rfl rfl ?_
  refine z_getA dX12_finish_86 zc12 (by decide) wf_X12_13 hf fun x5 hf => ?_
  refine z_alen dX12_finish_89 hf fun x6 hf => ?_
  refine z_irem dX12_finish_90 hf fun x7 hf => ?_
  refine z_putB dX12_finish_91 zc12 (by decide) wf_X12_43 (Or.inl rfl) rfl rfl hf fun h8 hf => ?_
  refine z_iload_n 1 dX12_finish_94 rfl rfl ?_
  refine z_if_eq 102 dX12_finish_95 (by decide) hf (fun hf => ?_) (fun hf => ?_)
  · refine z_iconst (0 : Int32) dX12_finish_102 (by decide) ?_
    exact z_iret dX12_finish_103 rfl (by cases hf; rfl)
  · refine z_iconst (1 : Int32) dX12_finish_98 (by decide) ?_
    refine z_goto 103 dX12_finish_99 (by decide) ?_
    exact z_iret dX12_finish_103 rfl (by cases hf; rfl)
set_option maxRecDepth 4000 in
theorem zj_X12_finish_34 {Γ : zG} {N d : Nat} {h0 : zH} (hd : 12 ≤ d) {v0 : Nat} {s0 : Int32} {h : zH} {w : Int32 × zH} (hf : f_X12_finish_j34 N v0 s0 h = some w) : Z Γ m_X12_finish d h0 (zoI w) 34 [(0, .ref v0)] [.int s0] h := by
  unfold f_X12_finish_j34 at hf
  refine z_istore_n [(1, .int s0), (0, .ref v0)] dX12_finish_34 rfl (by decide) rfl ?_
  refine z_iload_n 0 dX12_finish_35 rfl rfl ?_
  refine z_if_eq 78 dX12_finish_36 (by decide) hf (fun hf => ?_) (fun hf => ?_)
  · exact Z.sub [1, 0] rfl (zj_X12_finish_78 hd hf)
  · refine z_aload_n 1 dX12_finish_39 rfl rfl ?_
    refine z_aload_n 1 dX12_finish_40 rfl rfl ?_
    refine z_getI dX12_finish_41 zc12 (by decide) wf_X12_43 hf fun x9 hf => ?_
    refine z_aload_n 1 dX12_finish_44 rfl rfl ?_
    refine z_getA dX12_finish_45 zc12 (by decide) wf_X12_26 hf fun x10 hf => ?_
    refine z_aload_n 1 dX12_finish_48 rfl rfl ?_
    refine z_getI dX12_finish_49 zc12 (by decide) wf_X12_40 hf fun x11 hf => ?_
    refine z_iaload dX12_finish_52 hf fun x12 hf => ?_
    refine z_aload_n 1 dX12_finish_53 rfl rfl ?_
    refine z_getI dX12_finish_54 zc12 (by decide) wf_X12_46 hf fun x13 hf => ?_
    refine z_iadd dX12_finish_57 ?_
    refine z_cV_v (d' := d - 1) (As := [.int x9, .int (x12 + x13)]) (rest := []) dX12_finish_58 lk_X12_108 rfl hf (fun w1 e1 => zc_X12_pay (by omega) e1) (by omega) rfl rfl (Nat.le_of_ble_eq_true rfl) fun y14 hf => ?_
    refine z_aload_n 1 dX12_finish_61 rfl rfl ?_
    refine z_getA dX12_finish_62 zc12 (by decide) wf_X12_17 hf fun x15 hf => ?_
    refine z_aload_n 1 dX12_finish_65 rfl rfl ?_
    refine z_getI dX12_finish_66 zc12 (by decide) wf_X12_43 hf fun x16 hf => ?_
    refine z_dup2 dX12_finish_69 rfl rfl ?_
    refine z_iaload dX12_finish_70 hf fun x17 hf => ?_
    refine z_iconst (1 : Int32) dX12_finish_71 (by decide) ?_
    refine z_iadd dX12_finish_72 ?_
    refine z_iastore dX12_finish_73 hf fun h18 hf => ?_
    refine z_aload_n 1 dX12_finish_74 rfl rfl ?_
    refine z_cV_v (d' := d - 1) (As := []) (rest := []) dX12_finish_75 lk_X12_112 rfl hf (fun w1 e1 => zc_X12_ends (by omega) e1) (by omega) rfl rfl (Nat.le_of_ble_eq_true rfl) fun y19 hf => ?_
    exact Z.sub [1, 0] rfl (zj_X12_finish_78 hd hf)
set_option maxRecDepth 4000 in
theorem zj_X12_finish_33 {Γ : zG} {N d : Nat} {h0 : zH} (hd : 12 ≤ d) {v0 : Nat}  {h : zH} {w : Int32 × zH} (hf : f_X12_finish_j33 N v0  h = some w) : Z Γ m_X12_finish d h0 (zoI w) 33 [(0, .ref v0)] [] h := by
  unfold f_X12_finish_j33 at hf
  refine z_iconst (0 : Int32) dX12_finish_33 (by decide) ?_
  exact Z.sub [0] rfl (zj_X12_finish_34 hd hf)
set_option maxRecDepth 4000 in
theorem zc_X12_finish {Γ : zG} {N d : Nat} (hd : 12 ≤ d) {a : Nat} {h : zH} {w : Int32 × zH} (hf : f_X12_finish N a h = some w) : Zm Γ m_X12_finish d [.ref a] h (zoI w) := by
  unfold f_X12_finish at hf
  refine z_meth rfl (plainFor_of_name wpl_X12) (by simp [lg_sl, Value.category, zml, m_X12_finish]) ?_
  refine z_aload_n 0 dX12_finish_0 rfl rfl ?_
  refine z_iconst (0 : Int32) dX12_finish_1 (by decide) ?_
  refine z_putB dX12_finish_2 zc12 (by decide) wf_X12_49 (Or.inl rfl) rfl rfl hf fun h1 hf => ?_
  refine z_aload_n 0 dX12_finish_5 rfl rfl ?_
  refine z_getA dX12_finish_6 zc12 (by decide) wf_X12_31 hf fun x2 hf => ?_
  refine z_alen dX12_finish_9 hf fun x3 hf => ?_
  refine z_if_le 33 dX12_finish_10 (by decide) hf (fun hf => ?_) (fun hf => ?_)
  · exact Z.sub [0] rfl (zj_X12_finish_33 hd hf)
  · refine z_aload_n 0 dX12_finish_13 rfl rfl ?_
    refine z_iconst (0 : Int32) dX12_finish_14 (by decide) ?_
    refine z_aload_n 0 dX12_finish_15 rfl rfl ?_
    refine z_getA dX12_finish_16 zc12 (by decide) wf_X12_31 hf fun x20 hf => ?_
    refine z_alen dX12_finish_19 hf fun x21 hf => ?_
    refine z_cV_a (d' := d - 1) (As := [.int (0 : Int32), .int x21]) (rest := []) dX12_finish_20 lk_X12_100 rfl hf (fun w1 e1 => zc_X12_product (by omega) e1) (by omega) rfl rfl (Nat.le_of_ble_eq_true rfl) fun y22 hf => ?_
    refine z_cSN_i (d' := d - 1) (As := [.ref y22.1]) (rest := []) dX12_finish_23 lk_X12_104 hf (fun w1 e1 => zc_L_isNeutral (by omega) e1) (by omega) rfl rfl (Nat.le_of_ble_eq_true rfl) fun y23 hf => ?_
    refine z_if_eq 33 dX12_finish_26 (by decide) hf (fun hf => ?_) (fun hf => ?_)
    · exact Z.sub [0] rfl (zj_X12_finish_33 hd hf)
    · refine z_iconst (1 : Int32) dX12_finish_29 (by decide) ?_
      refine z_goto 34 dX12_finish_30 (by decide) ?_
      exact Z.sub [0] rfl (zj_X12_finish_34 hd hf)
set_option maxRecDepth 4000 in
theorem zc_X12_cancel {Γ : zG} {N d : Nat} (hd : 102 ≤ d) {a : Nat} {p1 : Int32} {p2 : Int32} {h : zH} {w : Int32 × zH} (hf : f_X12_cancel N a p1 p2 h = some w) : Zm Γ m_X12_cancel d [.ref a, .int p1, .int p2] h (zoI w) := by
  unfold f_X12_cancel at hf
  refine z_meth rfl (plainFor_of_name wpl_X12) (by simp [lg_sl, Value.category, zml, m_X12_cancel]) ?_
  refine z_aload_n 0 dX12_cancel_0 rfl rfl ?_
  refine z_getA dX12_cancel_1 zc12 (by decide) wf_X12_22 hf fun x1 hf => ?_
  refine z_aload_n 0 dX12_cancel_4 rfl rfl ?_
  refine z_getI dX12_cancel_5 zc12 (by decide) wf_X12_43 hf fun x2 hf => ?_
  refine z_aaload dX12_cancel_8 hf fun x3 hf => ?_
  refine z_iload_n 1 dX12_cancel_9 rfl rfl ?_
  refine z_aaload dX12_cancel_10 hf fun x4 hf => ?_
  refine z_astore_n [(3, .ref x4), (0, .ref a), (1, .int p1), (2, .int p2)] dX12_cancel_11 rfl (by decide) rfl ?_
  refine z_aload_n 1 dX12_cancel_12 rfl rfl ?_
  refine z_getA dX12_cancel_13 zc12 (by decide) wf_X12_31 hf fun x5 hf => ?_
  refine z_iload_n 3 dX12_cancel_16 rfl rfl ?_
  refine z_aaload dX12_cancel_17 hf fun x6 hf => ?_
  refine z_astore [(4, .ref x6), (3, .ref x4), (0, .ref a), (1, .int p1), (2, .int p2)] dX12_cancel_18 (by decide) rfl ?_
  refine z_aload_n 2 dX12_cancel_20 rfl rfl ?_
  refine z_aload_n 1 dX12_cancel_21 rfl rfl ?_
  refine z_cV_i (d' := d - 1) (As := [.ref x4]) (rest := []) dX12_cancel_22 lk_X12_115 rfl hf (fun w1 e1 => zc_X12_price (by omega) e1) (by omega) rfl rfl (Nat.le_of_ble_eq_true rfl) fun y7 hf => ?_
  refine z_istore [(5, .int y7.1), (4, .ref x6), (3, .ref x4), (0, .ref a), (1, .int p1), (2, .int p2)] dX12_cancel_25 (by decide) rfl ?_
  refine z_aload_n 2 dX12_cancel_27 rfl rfl ?_
  refine z_getA dX12_cancel_28 zc9 (by decide) wf_X12_65 hf fun x8 hf => ?_
  refine z_aload 1 dX12_cancel_31 rfl ?_
  refine z_getA dX12_cancel_33 zc9 (by decide) wf_X12_65 hf fun x9 hf => ?_
  refine z_cSN_a (d' := d - 1) (As := [.ref x8, .ref x9]) (rest := []) dX12_cancel_36 lk_X12_68 hf (fun w1 e1 => zc_L_times (by omega) e1) (by omega) rfl rfl (Nat.le_of_ble_eq_true rfl) fun y10 hf => ?_
  refine z_cSN_i (d' := d - 1) (As := [.ref y10.1]) (rest := []) dX12_cancel_39 lk_X12_104 hf (fun w1 e1 => zc_L_isNeutral (by omega) e1) (by omega) rfl rfl (Nat.le_of_ble_eq_true rfl) fun y11 hf => ?_
  refine z_if_eq 69 dX12_cancel_42 (by decide) hf (fun hf => ?_) (fun hf => ?_)
  · refine z_iconst (-1 : Int32) dX12_cancel_69 (by decide) ?_
    exact z_iret dX12_cancel_70 rfl (by cases hf; rfl)
  · refine z_iload 0 dX12_cancel_45 rfl ?_
    refine z_aload 1 dX12_cancel_47 rfl ?_
    refine z_getI dX12_cancel_49 zc9 (by decide) wf_X12_72 hf fun x12 hf => ?_
    refine z_icmp_lt 69 dX12_cancel_52 (by decide) hf (fun hf => ?_) (fun hf => ?_)
    · refine z_iconst (-1 : Int32) dX12_cancel_69 (by decide) ?_
      exact z_iret dX12_cancel_70 rfl (by cases hf; rfl)
    · refine z_aload_n 3 dX12_cancel_55 rfl rfl ?_
      refine z_getA dX12_cancel_56 zc12 (by decide) wf_X12_13 hf fun x13 hf => ?_
      refine z_aload_n 3 dX12_cancel_59 rfl rfl ?_
      refine z_getI dX12_cancel_60 zc12 (by decide) wf_X12_43 hf fun x14 hf => ?_
      refine z_iaload dX12_cancel_63 hf fun x15 hf => ?_
      refine z_iload 0 dX12_cancel_64 rfl ?_
      refine z_icmp_ge 71 dX12_cancel_66 (by decide) hf (fun hf => ?_) (fun hf => ?_)
      · refine z_aload_n 3 dX12_cancel_71 rfl rfl ?_
        refine z_getA dX12_cancel_72 zc12 (by decide) wf_X12_13 hf fun x16 hf => ?_
        refine z_aload_n 3 dX12_cancel_75 rfl rfl ?_
        refine z_getI dX12_cancel_76 zc12 (by decide) wf_X12_43 hf fun x17 hf => ?_
        refine z_dup2 dX12_cancel_79 rfl rfl ?_
        refine z_iaload dX12_cancel_80 hf fun x18 hf => ?_
        refine z_iload 0 dX12_cancel_81 rfl ?_
        refine z_isub dX12_cancel_83 ?_
        refine z_iastore dX12_cancel_84 hf fun h19 hf => ?_
        refine z_aload_n 3 dX12_cancel_85 rfl rfl ?_
        refine z_dup dX12_cancel_86 rfl ?_
        refine z_getI dX12_cancel_87 zc12 (by decide) wf_X12_46 hf fun x20 hf => ?_
        refine z_iload 0 dX12_cancel_90 rfl ?_
        refine z_aload 1 dX12_cancel_92 rfl ?_
        refine z_getI dX12_cancel_94 zc9 (by decide) wf_X12_72 hf fun x21 hf => ?_
        refine z_isub dX12_cancel_97 ?_
        refine z_iadd dX12_cancel_98 ?_
        refine z_putB dX12_cancel_99 zc12 (by decide) wf_X12_46 (Or.inl rfl) rfl rfl hf fun h22 hf => ?_
        refine z_aload_n 3 dX12_cancel_102 rfl rfl ?_
        refine z_aload 1 dX12_cancel_103 rfl ?_
        refine z_getI dX12_cancel_105 zc9 (by decide) wf_X12_134 hf fun x23 hf => ?_
        refine z_aload 1 dX12_cancel_108 rfl ?_
        refine z_getI dX12_cancel_110 zc9 (by decide) wf_X12_72 hf fun x24 hf => ?_
        refine z_cV_v (d' := d - 1) (As := [.int x23, .int x24]) (rest := []) dX12_cancel_113 lk_X12_108 rfl hf (fun w1 e1 => zc_X12_pay (by omega) e1) (by omega) rfl rfl (Nat.le_of_ble_eq_true rfl) fun y25 hf => ?_
        refine z_aload_n 3 dX12_cancel_116 rfl rfl ?_
        refine z_aload_n 3 dX12_cancel_117 rfl rfl ?_
        refine z_getA dX12_cancel_118 zc12 (by decide) wf_X12_31 hf fun x26 hf => ?_
        refine z_iload_n 5 dX12_cancel_121 rfl rfl ?_
        refine z_cSN_a (d' := d - 1) (As := [.ref x26, .int p2]) (rest := [.ref a]) dX12_cancel_122 lk_X12_126 hf (fun w1 e1 => zc_L_without (by omega) e1) (by omega) rfl rfl (Nat.le_of_ble_eq_true rfl) fun y27 hf => ?_
        refine z_putB dX12_cancel_125 zc12 (by decide) wf_X12_31 (Or.inl rfl) rfl rfl hf fun h28 hf => ?_
        refine z_aload_n 3 dX12_cancel_128 rfl rfl ?_
        refine z_getA dX12_cancel_129 zc12 (by decide) wf_X12_22 hf fun x29 hf => ?_
        refine z_aload_n 3 dX12_cancel_132 rfl rfl ?_
        refine z_getI dX12_cancel_133 zc12 (by decide) wf_X12_43 hf fun x30 hf => ?_
        refine z_aload_n 3 dX12_cancel_136 rfl rfl ?_
        refine z_getA dX12_cancel_137 zc12 (by decide) wf_X12_22 hf fun x31 hf => ?_
        refine z_aload_n 3 dX12_cancel_140 rfl rfl ?_
        refine z_getI dX12_cancel_141 zc12 (by decide) wf_X12_43 hf fun x32 hf => ?_
        refine z_aaload dX12_cancel_144 hf fun x33 hf => ?_
        refine z_iload_n 4 dX12_cancel_145 rfl rfl ?_
        refine z_cSN_a (d' := d - 1) (As := [.ref x33, .int p1]) (rest := [.int x30, .ref x29]) dX12_cancel_146 lk_X12_126 hf (fun w1 e1 => zc_L_without (by omega) e1) (by omega) rfl rfl (Nat.le_of_ble_eq_true rfl) fun y34 hf => ?_
        refine z_aastR dX12_cancel_149 wo_6 hf fun h35 hf => ?_
        refine z_aload_n 3 dX12_cancel_150 rfl rfl ?_
        refine z_cV_i (d' := d - 1) (As := []) (rest := []) dX12_cancel_151 lk_X12_130 rfl hf (fun w1 e1 => zc_X12_finish (by omega) e1) (by omega) rfl rfl (Nat.le_of_ble_eq_true rfl) fun y36 hf => ?_
        exact z_iret dX12_cancel_154 rfl (by cases hf; rfl)
      · refine z_iconst (-1 : Int32) dX12_cancel_69 (by decide) ?_
        exact z_iret dX12_cancel_70 rfl (by cases hf; rfl)
set_option maxRecDepth 4000 in
theorem zj_X0_cancelBid_83 {Γ : zG} {N d : Nat} {h0 : zH} (hd : 14 ≤ d) {v0 : Nat} {v1 : Int32} {v2 : Int32} {v3 : Nat} {v4 : Nat} {v5 : Int32} {v6 : Int32} {s0 : Int32} {h : zH} {w : Int32 × zH} (hf : f_X0_cancelBid_j83 N v0 v1 v2 v3 v4 v5 v6 s0 h = some w) : Z Γ m_X0_cancelBid d h0 (zoI w) 83 [(0, .ref v0), (1, .int v1), (2, .int v2), (3, .ref v3), (4, .ref v4), (5, .int v5), (6, .int v6)] [.int s0] h := by
  unfold f_X0_cancelBid_j83 at hf
  refine z_istore [(7, .int s0), (0, .ref v0), (1, .int v1), (2, .int v2), (3, .ref v3), (4, .ref v4), (5, .int v5), (6, .int v6)] dX0_cancelBid_83 (by decide) rfl ?_
  refine z_iload 0 dX0_cancelBid_85 rfl ?_
  refine z_if_eq 106 dX0_cancelBid_87 (by decide) hf (fun hf => ?_) (fun hf => ?_)
  · refine z_iconst (-1 : Int32) dX0_cancelBid_106 (by decide) ?_
    exact z_iret dX0_cancelBid_107 rfl (by cases hf; rfl)
  · refine z_iload 6 dX0_cancelBid_90 rfl ?_
    refine z_iload 7 dX0_cancelBid_92 rfl ?_
    refine z_icmp_lt 106 dX0_cancelBid_94 (by decide) hf (fun hf => ?_) (fun hf => ?_)
    · refine z_iconst (-1 : Int32) dX0_cancelBid_106 (by decide) ?_
      exact z_iret dX0_cancelBid_107 rfl (by cases hf; rfl)
    · refine z_aload_n 4 dX0_cancelBid_97 rfl rfl ?_
      refine z_getI dX0_cancelBid_98 zc1 (by decide) wf_X0_139 hf fun x21 hf => ?_
      refine z_iload 6 dX0_cancelBid_101 rfl ?_
      refine z_icmp_ge 108 dX0_cancelBid_103 (by decide) hf (fun hf => ?_) (fun hf => ?_)
      · refine z_aload_n 4 dX0_cancelBid_108 rfl rfl ?_
        refine z_dup dX0_cancelBid_109 rfl ?_
        refine z_getI dX0_cancelBid_110 zc1 (by decide) wf_X0_139 hf fun x22 hf => ?_
        refine z_iload 6 dX0_cancelBid_113 rfl ?_
        refine z_isub dX0_cancelBid_115 ?_
        refine z_putB dX0_cancelBid_116 zc1 (by decide) wf_X0_139 (Or.inl rfl) rfl rfl hf fun h23 hf => ?_
        refine z_aload_n 1 dX0_cancelBid_119 rfl rfl ?_
        refine z_dup dX0_cancelBid_120 rfl ?_
        refine z_getI dX0_cancelBid_121 zc0 (by decide) wf_X0_81 hf fun x24 hf => ?_
        refine z_iload 6 dX0_cancelBid_124 rfl ?_
        refine z_iload 7 dX0_cancelBid_126 rfl ?_
        refine z_isub dX0_cancelBid_128 ?_
        refine z_iadd dX0_cancelBid_129 ?_
        refine z_putB dX0_cancelBid_130 zc0 (by decide) wf_X0_81 (Or.inl rfl) rfl rfl hf fun h25 hf => ?_
        refine z_aload 5 dX0_cancelBid_133 rfl ?_
        refine z_iload 7 dX0_cancelBid_135 rfl ?_
        refine z_cV_v (d' := d - 1) (As := [.int v6]) (rest := []) dX0_cancelBid_137 lk_X0_152 rfl hf (fun w1 e1 => zc_X1_receive (by omega) e1) (by omega) rfl rfl (Nat.le_of_ble_eq_true rfl) fun y26 hf => ?_
        refine z_aload_n 1 dX0_cancelBid_140 rfl rfl ?_
        refine z_getA dX0_cancelBid_141 zc0 (by decide) wf_X0_31 hf fun x27 hf => ?_
        refine z_iload_n 3 dX0_cancelBid_144 rfl rfl ?_
        refine z_cV_v (d' := d - 1) (As := [.int v2]) (rest := []) dX0_cancelBid_145 lk_X0_155 rfl hf (fun w1 e1 => zc_X6_remove (by omega) e1) (by omega) rfl rfl (Nat.le_of_ble_eq_true rfl) fun y28 hf => ?_
        refine z_aload_n 1 dX0_cancelBid_148 rfl rfl ?_
        refine z_getA dX0_cancelBid_149 zc0 (by decide) wf_X0_34 hf fun x29 hf => ?_
        refine z_iload_n 3 dX0_cancelBid_152 rfl rfl ?_
        refine z_cV_v (d' := d - 1) (As := [.int v2]) (rest := []) dX0_cancelBid_153 lk_X0_155 rfl hf (fun w1 e1 => zc_X6_remove (by omega) e1) (by omega) rfl rfl (Nat.le_of_ble_eq_true rfl) fun y30 hf => ?_
        refine z_aload_n 1 dX0_cancelBid_156 rfl rfl ?_
        refine z_getA dX0_cancelBid_157 zc0 (by decide) wf_X0_37 hf fun x31 hf => ?_
        refine z_iload_n 3 dX0_cancelBid_160 rfl rfl ?_
        refine z_cV_v (d' := d - 1) (As := [.int v2]) (rest := []) dX0_cancelBid_161 lk_X0_155 rfl hf (fun w1 e1 => zc_X6_remove (by omega) e1) (by omega) rfl rfl (Nat.le_of_ble_eq_true rfl) fun y32 hf => ?_
        refine z_aload_n 4 dX0_cancelBid_164 rfl rfl ?_
        refine z_iload_n 2 dX0_cancelBid_165 rfl rfl ?_
        refine z_cV_v (d' := d - 1) (As := [.int v1]) (rest := []) dX0_cancelBid_166 lk_X0_145 rfl hf (fun w1 e1 => zc_X1_dropCard (by omega) e1) (by omega) rfl rfl (Nat.le_of_ble_eq_true rfl) fun y33 hf => ?_
        refine z_aload_n 1 dX0_cancelBid_169 rfl rfl ?_
        refine z_aload_n 4 dX0_cancelBid_170 rfl rfl ?_
        refine z_cV_i (d' := d - 1) (As := [.ref v3]) (rest := []) dX0_cancelBid_171 lk_X0_148 rfl hf (fun w1 e1 => zc_X0_endMove (by omega) e1) (by omega) rfl rfl (Nat.le_of_ble_eq_true rfl) fun y34 hf => ?_
        exact z_iret dX0_cancelBid_174 rfl (by cases hf; rfl)
      · refine z_iconst (-1 : Int32) dX0_cancelBid_106 (by decide) ?_
        exact z_iret dX0_cancelBid_107 rfl (by cases hf; rfl)
set_option maxRecDepth 4000 in
theorem zc_X0_cancelBid {Γ : zG} {N d : Nat} (hd : 14 ≤ d) {a : Nat} {p1 : Int32} {p2 : Int32} {h : zH} {w : Int32 × zH} (hf : f_X0_cancelBid N a p1 p2 h = some w) : Zm Γ m_X0_cancelBid d [.ref a, .int p1, .int p2] h (zoI w) := by
  unfold f_X0_cancelBid at hf
  refine z_meth rfl (plainFor_of_name wpl_X0) (by simp [lg_sl, Value.category, zml, m_X0_cancelBid]) ?_
  refine z_aload_n 0 dX0_cancelBid_0 rfl rfl ?_
  refine z_aload_n 0 dX0_cancelBid_1 rfl rfl ?_
  refine z_getI dX0_cancelBid_2 zc0 (by decide) wf_X0_65 hf fun x1 hf => ?_
  refine z_cV_n (d' := d - 1) (As := [.int x1]) (rest := []) dX0_cancelBid_5 lk_X0_127 rfl hf (fun w1 e1 => zc_X0_bidder (by omega) e1) (by omega) rfl rfl (Nat.le_of_ble_eq_true rfl) (fun y2 hf => ?_) (fun y2 x3 hf => ?_)
  · refine z_astore_nN [(3, .null), (0, .ref a), (1, .int p1), (2, .int p2)] dX0_cancelBid_8 rfl (by decide) rfl ?_
    refine z_aload_n 1 dX0_cancelBid_9 rfl rfl ?_
    refine z_aload_n 1 dX0_cancelBid_10 rfl rfl ?_
    refine z_getA dX0_cancelBid_11 zc0 (by decide) wf_X0_31 hf fun x4 hf => ?_
    refine z_iload_n 3 dX0_cancelBid_14 rfl rfl ?_
    refine z_cV_i (d' := d - 1) (As := [.int p2]) (rest := [.ref a]) dX0_cancelBid_15 lk_X0_94 rfl hf (fun w1 e1 => zc_X6_at (by omega) e1) (by omega) rfl rfl (Nat.le_of_ble_eq_true rfl) fun y5 hf => ?_
    refine z_cV_n (d' := d - 1) (As := [.int y5.1]) (rest := []) dX0_cancelBid_18 lk_X0_127 rfl hf (fun w1 e1 => zc_X0_bidder (by omega) e1) (by omega) rfl rfl (Nat.le_of_ble_eq_true rfl) (fun y6 hf => ?_) (fun y6 x7 hf => ?_)
    · refine z_astoreN [(4, .null), (3, .null), (0, .ref a), (1, .int p1), (2, .int p2)] dX0_cancelBid_21 (by decide) rfl ?_
      refine z_aload_nN 1 dX0_cancelBid_23 rfl rfl ?_
      refine z_ifnullN 32 dX0_cancelBid_24 (by decide) ?_
      refine z_iconst (-1 : Int32) dX0_cancelBid_32 (by decide) ?_
      exact z_iret dX0_cancelBid_33 rfl (by cases hf; rfl)
    · refine z_astore [(4, .ref x7), (3, .null), (0, .ref a), (1, .int p1), (2, .int p2)] dX0_cancelBid_21 (by decide) rfl ?_
      refine z_aload_nN 1 dX0_cancelBid_23 rfl rfl ?_
      refine z_ifnullN 32 dX0_cancelBid_24 (by decide) ?_
      refine z_iconst (-1 : Int32) dX0_cancelBid_32 (by decide) ?_
      exact z_iret dX0_cancelBid_33 rfl (by cases hf; rfl)
  · refine z_astore_n [(3, .ref x3), (0, .ref a), (1, .int p1), (2, .int p2)] dX0_cancelBid_8 rfl (by decide) rfl ?_
    refine z_aload_n 1 dX0_cancelBid_9 rfl rfl ?_
    refine z_aload_n 1 dX0_cancelBid_10 rfl rfl ?_
    refine z_getA dX0_cancelBid_11 zc0 (by decide) wf_X0_31 hf fun x8 hf => ?_
    refine z_iload_n 3 dX0_cancelBid_14 rfl rfl ?_
    refine z_cV_i (d' := d - 1) (As := [.int p2]) (rest := [.ref a]) dX0_cancelBid_15 lk_X0_94 rfl hf (fun w1 e1 => zc_X6_at (by omega) e1) (by omega) rfl rfl (Nat.le_of_ble_eq_true rfl) fun y9 hf => ?_
    refine z_cV_n (d' := d - 1) (As := [.int y9.1]) (rest := []) dX0_cancelBid_18 lk_X0_127 rfl hf (fun w1 e1 => zc_X0_bidder (by omega) e1) (by omega) rfl rfl (Nat.le_of_ble_eq_true rfl) (fun y10 hf => ?_) (fun y10 x11 hf => ?_)
    · refine z_astoreN [(4, .null), (3, .ref x3), (0, .ref a), (1, .int p1), (2, .int p2)] dX0_cancelBid_21 (by decide) rfl ?_
      refine z_aload_n 1 dX0_cancelBid_23 rfl rfl ?_
      refine z_ifnull dX0_cancelBid_24 ?_
      refine z_aloadN 0 dX0_cancelBid_27 rfl ?_
      refine z_ifnonnullN dX0_cancelBid_29 ?_
      refine z_iconst (-1 : Int32) dX0_cancelBid_32 (by decide) ?_
      exact z_iret dX0_cancelBid_33 rfl (by cases hf; rfl)
    · refine z_astore [(4, .ref x11), (3, .ref x3), (0, .ref a), (1, .int p1), (2, .int p2)] dX0_cancelBid_21 (by decide) rfl ?_
      refine z_aload_n 1 dX0_cancelBid_23 rfl rfl ?_
      refine z_ifnull dX0_cancelBid_24 ?_
      refine z_aload 0 dX0_cancelBid_27 rfl ?_
      refine z_ifnonnull 34 dX0_cancelBid_29 (by decide) ?_
      refine z_aload_n 2 dX0_cancelBid_34 rfl rfl ?_
      refine z_aload_n 1 dX0_cancelBid_35 rfl rfl ?_
      refine z_iload_n 3 dX0_cancelBid_36 rfl rfl ?_
      refine z_cV_i (d' := d - 1) (As := [.ref x3, .int p1]) (rest := []) dX0_cancelBid_37 lk_X0_131 rfl hf (fun w1 e1 => zc_X0_priceOf (by omega) e1) (by omega) rfl rfl (Nat.le_of_ble_eq_true rfl) fun y12 hf => ?_
      refine z_istore [(5, .int y12.1), (4, .ref x11), (3, .ref x3), (0, .ref a), (1, .int p1), (2, .int p2)] dX0_cancelBid_40 (by decide) rfl ?_
      refine z_aload_n 3 dX0_cancelBid_42 rfl rfl ?_
      refine z_getA dX0_cancelBid_43 zc0 (by decide) wf_X0_37 hf fun x13 hf => ?_
      refine z_iload_n 5 dX0_cancelBid_46 rfl rfl ?_
      refine z_cV_i (d' := d - 1) (As := [.int p2]) (rest := []) dX0_cancelBid_47 lk_X0_94 rfl hf (fun w1 e1 => zc_X6_at (by omega) e1) (by omega) rfl rfl (Nat.le_of_ble_eq_true rfl) fun y14 hf => ?_
      refine z_istore [(6, .int y14.1), (5, .int y12.1), (4, .ref x11), (3, .ref x3), (0, .ref a), (1, .int p1), (2, .int p2)] dX0_cancelBid_50 (by decide) rfl ?_
      refine z_aload_n 4 dX0_cancelBid_52 rfl rfl ?_
      refine z_getA dX0_cancelBid_53 zc0 (by decide) wf_X0_9 hf fun x15 hf => ?_
      refine z_aload_n 3 dX0_cancelBid_56 rfl rfl ?_
      refine z_getA dX0_cancelBid_57 zc1 (by decide) wf_X0_114 hf fun x16 hf => ?_
      refine z_iload_n 5 dX0_cancelBid_60 rfl rfl ?_
      refine z_cV_i (d' := d - 1) (As := [.int p1]) (rest := [.ref x15]) dX0_cancelBid_61 lk_X0_94 rfl hf (fun w1 e1 => zc_X6_at (by omega) e1) (by omega) rfl rfl (Nat.le_of_ble_eq_true rfl) fun y17 hf => ?_
      refine z_aload_n 4 dX0_cancelBid_64 rfl rfl ?_
      refine z_getA dX0_cancelBid_65 zc0 (by decide) wf_X0_34 hf fun x18 hf => ?_
      refine z_iload_n 6 dX0_cancelBid_68 rfl rfl ?_
      refine z_cV_i (d' := d - 1) (As := [.int p2]) (rest := [.int y17.1, .ref x15]) dX0_cancelBid_69 lk_X0_94 rfl hf (fun w1 e1 => zc_X6_at (by omega) e1) (by omega) rfl rfl (Nat.le_of_ble_eq_true rfl) fun y19 hf => ?_
      refine z_cV_i (d' := d - 1) (As := [.int y17.1, .int y19.1]) (rest := []) dX0_cancelBid_72 lk_X0_98 rfl hf (fun w1 e1 => zc_X2_times (by omega) e1) (by omega) rfl rfl (Nat.le_of_ble_eq_true rfl) fun y20 hf => ?_
      refine z_if_ne 82 dX0_cancelBid_75 (by decide) hf (fun hf => ?_) (fun hf => ?_)
      · refine z_iconst (1 : Int32) dX0_cancelBid_78 (by decide) ?_
        refine z_goto 83 dX0_cancelBid_79 (by decide) ?_
        exact Z.sub [4, 5, 6, 3, 2, 1, 0] rfl (zj_X0_cancelBid_83 hd hf)
      · refine z_iconst (0 : Int32) dX0_cancelBid_82 (by decide) ?_
        exact Z.sub [4, 5, 6, 3, 2, 1, 0] rfl (zj_X0_cancelBid_83 hd hf)
set_option maxRecDepth 4000 in
theorem zc_X8_cancel {Γ : zG} {N d : Nat} (hd : 15 ≤ d) {a : Nat} {p1 : Int32} {p2 : Int32} {h : zH} {w : (Int32 ⊕ Nat) × zH} (hf : f_X8_cancel N a p1 p2 h = some w) : Zm Γ m_X8_cancel d [.ref a, .int p1, .int p2] h (zoTI w) := by
  unfold f_X8_cancel at hf
  refine z_meth rfl (plainFor_of_name wpl_X8) (by simp [lg_sl, Value.category, zml, m_X8_cancel]) ?_
  refine z_aload_n 0 dX8_cancel_0 rfl rfl ?_
  refine z_cV_ta (d' := d - 1) (As := []) (rest := []) dX8_cancel_1 lk_X8_202 rfl hf (fun w1 e1 => zc_X8_bidderInTurn (by omega) e1) (by omega) rfl rfl (Nat.le_of_ble_eq_true rfl) (fun y1 x2 hf => ?_) (fun y1 k3 hf => ?_)
  · refine z_getA dX8_cancel_4 zc1 (by decide) wf_X8_128 hf fun x4 hf => ?_
    refine z_iload_n 1 dX8_cancel_7 rfl rfl ?_
    refine z_cV_i (d' := d - 1) (As := [.int p1]) (rest := []) dX8_cancel_8 lk_X8_134 rfl hf (fun w1 e1 => zc_X6_holds (by omega) e1) (by omega) rfl rfl (Nat.le_of_ble_eq_true rfl) fun y5 hf => ?_
    refine z_if_eq 28 dX8_cancel_11 (by decide) hf (fun hf => ?_) (fun hf => ?_)
    · exact z_throw 3 (by decide) dX8_cancel_28 dX8_cancel_31 dX8_cancel_32 dX8_cancel_35 wc_X8_138 wi_x3 wx_X8_140a wx_X8_140b (by omega) rfl (Nat.le_of_ble_eq_true rfl) (by cases hf; rfl)
    · refine z_aload_n 0 dX8_cancel_14 rfl rfl ?_
      refine z_getA dX8_cancel_15 zc8 (by decide) wf_X8_28 hf fun x6 hf => ?_
      refine z_getA dX8_cancel_18 zc0 (by decide) wf_X8_107 hf fun x7 hf => ?_
      refine z_iload_n 2 dX8_cancel_21 rfl rfl ?_
      refine z_cV_i (d' := d - 1) (As := [.int p2]) (rest := []) dX8_cancel_22 lk_X8_134 rfl hf (fun w1 e1 => zc_X6_holds (by omega) e1) (by omega) rfl rfl (Nat.le_of_ble_eq_true rfl) fun y8 hf => ?_
      refine z_if_ne 36 dX8_cancel_25 (by decide) hf (fun hf => ?_) (fun hf => ?_)
      · exact z_throw 3 (by decide) dX8_cancel_28 dX8_cancel_31 dX8_cancel_32 dX8_cancel_35 wc_X8_138 wi_x3 wx_X8_140a wx_X8_140b (by omega) rfl (Nat.le_of_ble_eq_true rfl) (by cases hf; rfl)
      · refine z_aload_n 0 dX8_cancel_36 rfl rfl ?_
        refine z_getA dX8_cancel_37 zc8 (by decide) wf_X8_35 hf fun x9 hf => ?_
        refine z_aload_n 0 dX8_cancel_40 rfl rfl ?_
        refine z_getA dX8_cancel_41 zc8 (by decide) wf_X8_28 hf fun x10 hf => ?_
        refine z_cV_v (d' := d - 1) (As := [.ref x10]) (rest := []) dX8_cancel_44 lk_X8_72 rfl hf (fun w1 e1 => zc_X4_remember (by omega) e1) (by omega) rfl rfl (Nat.le_of_ble_eq_true rfl) fun y11 hf => ?_
        refine z_aload_n 0 dX8_cancel_47 rfl rfl ?_
        refine z_getA dX8_cancel_48 zc8 (by decide) wf_X8_28 hf fun x12 hf => ?_
        refine z_iload_n 1 dX8_cancel_51 rfl rfl ?_
        refine z_iload_n 2 dX8_cancel_52 rfl rfl ?_
        refine z_cV_i (d' := d - 1) (As := [.int p1, .int p2]) (rest := []) dX8_cancel_53 lk_X8_209 rfl hf (fun w1 e1 => zc_X0_cancelBid (by omega) e1) (by omega) rfl rfl (Nat.le_of_ble_eq_true rfl) fun y13 hf => ?_
        exact z_iret dX8_cancel_56 rfl (by cases hf; rfl)
  · exact zx_out rfl (by cases hf; rfl)
set_option maxRecDepth 4000 in
theorem zc_L_cancel {Γ : zG} {N d : Nat} (hd : 16 ≤ d) {p1 : Nat} {p2 : Int32} {p3 : Int32} {h : zH} {w : Int32 × zH} (hf : f_L_cancel N p1 p2 p3 h = some w) : Zm Γ m_L_cancel d [.ref p1, .int p2, .int p3] h (zoI w) := by
  unfold f_L_cancel at hf
  refine z_methH (by decide) (by decide +kernel) (by simp [lg_sl, Value.category, zml, m_L_cancel]) ?_
  refine z_aload_n 0 dL_cancel_0 rfl rfl ?_
  refine z_iload_n 1 dL_cancel_1 rfl rfl ?_
  refine z_iload_n 2 dL_cancel_2 rfl rfl ?_
  refine z_cV_ti (d' := d - 1) (As := [.int p2, .int p3]) (rest := []) dL_cancel_3 lk_L_100 rfl hf (fun w1 e1 => zc_X8_cancel (by omega) e1) (by omega) rfl rfl (Nat.le_of_ble_eq_true rfl) (fun y1 x2 hf => ?_) (fun y1 k3 hf => ?_)
  · exact z_iret dL_cancel_6 rfl (by cases hf; rfl)
  · by_cases e0 : k3 = 0
    · rw [if_pos e0] at hf
      subst e0
      refine zx_catch (by decide) [] (0, 6, 7, 97) [(0, 6, 11, 57)] rfl (fun z hz => absurd hz List.not_mem_nil) (by decide) (by decide) wc_L_97 wct_0 fun q4 => ?_
      refine z_astore_n [(3, .ref q4), (0, .ref p1), (1, .int p2), (2, .int p3)] dL_cancel_7 rfl (by decide) rfl ?_
      refine z_ldc (-2000000099 : Int32) dL_cancel_8 wk_L_99 ?_
      exact z_iret dL_cancel_10 rfl (by cases hf; rfl)
    · rw [if_neg e0] at hf
      by_cases e1 : k3 = 3
      · rw [if_pos e1] at hf
        subst e1
        refine zx_catch (by decide) [(0, 6, 7, 97)] (0, 6, 11, 57) [] rfl (List.forall_mem_cons.mpr ⟨⟨by decide, 0, by decide, by decide, wc_L_97⟩, fun z hz => absurd hz List.not_mem_nil⟩) (by decide) (by decide) wc_L_57 wct_3 fun q5 => ?_
        refine z_astore_n [(3, .ref q5), (0, .ref p1), (1, .int p2), (2, .int p3)] dL_cancel_11 rfl (by decide) rfl ?_
        refine z_ldc (-2000000100 : Int32) dL_cancel_12 wk_L_59 ?_
        exact z_iret dL_cancel_14 rfl (by cases hf; rfl)
      · rw [if_neg e1] at hf
        cases hf
set_option maxRecDepth 4000 in
theorem zc_X12_play {Γ : zG} {N d : Nat} (hd : 102 ≤ d) {a : Nat} {p1 : Int32} {h : zH} {w : Int32 × zH} (hf : f_X12_play N a p1 h = some w) : Zm Γ m_X12_play d [.ref a, .int p1] h (zoI w) := by
  unfold f_X12_play at hf
  refine z_meth rfl (plainFor_of_name wpl_X12) (by simp [lg_sl, Value.category, zml, m_X12_play]) ?_
  refine z_aload_n 0 dX12_play_0 rfl rfl ?_
  refine z_getA dX12_play_1 zc12 (by decide) wf_X12_22 hf fun x1 hf => ?_
  refine z_aload_n 0 dX12_play_4 rfl rfl ?_
  refine z_getI dX12_play_5 zc12 (by decide) wf_X12_43 hf fun x2 hf => ?_
  refine z_aaload dX12_play_8 hf fun x3 hf => ?_
  refine z_iload_n 1 dX12_play_9 rfl rfl ?_
  refine z_aaload dX12_play_10 hf fun x4 hf => ?_
  refine z_astore_n [(2, .ref x4), (0, .ref a), (1, .int p1)] dX12_play_11 rfl (by decide) rfl ?_
  refine z_aload_n 1 dX12_play_12 rfl rfl ?_
  refine z_aload_n 0 dX12_play_13 rfl rfl ?_
  refine z_cV_i (d' := d - 1) (As := [.ref x4]) (rest := []) dX12_play_14 lk_X12_115 rfl hf (fun w1 e1 => zc_X12_price (by omega) e1) (by omega) rfl rfl (Nat.le_of_ble_eq_true rfl) fun y5 hf => ?_
  refine z_istore_n [(3, .int y5.1), (2, .ref x4), (0, .ref a), (1, .int p1)] dX12_play_17 rfl (by decide) rfl ?_
  refine z_aload_n 2 dX12_play_18 rfl rfl ?_
  refine z_getA dX12_play_19 zc12 (by decide) wf_X12_31 hf fun x6 hf => ?_
  refine z_alen dX12_play_22 hf fun x7 hf => ?_
  refine z_bipush (20 : Int32) dX12_play_23 (by decide) ?_
  refine z_icmp_eq 41 dX12_play_25 (by decide) hf (fun hf => ?_) (fun hf => ?_)
  · refine z_iconst (-1 : Int32) dX12_play_41 (by decide) ?_
    exact z_iret dX12_play_42 rfl (by cases hf; rfl)
  · refine z_aload_n 2 dX12_play_28 rfl rfl ?_
    refine z_getA dX12_play_29 zc12 (by decide) wf_X12_13 hf fun x8 hf => ?_
    refine z_aload_n 2 dX12_play_32 rfl rfl ?_
    refine z_getI dX12_play_33 zc12 (by decide) wf_X12_43 hf fun x9 hf => ?_
    refine z_iaload dX12_play_36 hf fun x10 hf => ?_
    refine z_iload_n 0 dX12_play_37 rfl rfl ?_
    refine z_icmp_ge 43 dX12_play_38 (by decide) hf (fun hf => ?_) (fun hf => ?_)
    · refine z_aload_n 2 dX12_play_43 rfl rfl ?_
      refine z_getA dX12_play_44 zc12 (by decide) wf_X12_13 hf fun x11 hf => ?_
      refine z_aload_n 2 dX12_play_47 rfl rfl ?_
      refine z_getI dX12_play_48 zc12 (by decide) wf_X12_43 hf fun x12 hf => ?_
      refine z_dup2 dX12_play_51 rfl rfl ?_
      refine z_iaload dX12_play_52 hf fun x13 hf => ?_
      refine z_iload_n 0 dX12_play_53 rfl rfl ?_
      refine z_isub dX12_play_54 ?_
      refine z_iastore dX12_play_55 hf fun h14 hf => ?_
      refine z_aload_n 2 dX12_play_56 rfl rfl ?_
      refine z_dup dX12_play_57 rfl ?_
      refine z_getI dX12_play_58 zc12 (by decide) wf_X12_46 hf fun x15 hf => ?_
      refine z_iload_n 0 dX12_play_61 rfl rfl ?_
      refine z_iadd dX12_play_62 ?_
      refine z_putB dX12_play_63 zc12 (by decide) wf_X12_46 (Or.inl rfl) rfl rfl hf fun h16 hf => ?_
      refine z_aload_n 2 dX12_play_66 rfl rfl ?_
      refine z_aload_n 2 dX12_play_67 rfl rfl ?_
      refine z_getA dX12_play_68 zc12 (by decide) wf_X12_31 hf fun x17 hf => ?_
      refine z_nwO dX12_play_71 zc9 wc_X12_29 wn_X9 wi_X9 rfl zd9 hf fun y18 hf => ?_
      refine z_dup dX12_play_74 rfl ?_
      refine z_aload_n 2 dX12_play_75 rfl rfl ?_
      refine z_getI dX12_play_76 zc12 (by decide) wf_X12_43 hf fun x19 hf => ?_
      refine z_aload_n 1 dX12_play_79 rfl rfl ?_
      refine z_getA dX12_play_80 zc9 (by decide) wf_X12_65 hf fun x20 hf => ?_
      refine z_iload_n 0 dX12_play_83 rfl rfl ?_
      refine z_cI_v (d' := d - 1) (As := [.int x19, .ref x20, .int y5.1]) (rest := [.ref y18.1, .ref x17, .ref a]) dX12_play_84 lk_X12_119 hf (fun w1 e1 => zc_X9_init (by omega) e1) (by omega) rfl rfl (Nat.le_of_ble_eq_true rfl) fun y21 hf => ?_
      refine z_cSN_a (d' := d - 1) (As := [.ref x17, .ref y18.1]) (rest := [.ref a]) dX12_play_87 lk_X12_122 hf (fun w1 e1 => zc_L_with (by omega) e1) (by omega) rfl rfl (Nat.le_of_ble_eq_true rfl) fun y22 hf => ?_
      refine z_putB dX12_play_90 zc12 (by decide) wf_X12_31 (Or.inl rfl) rfl rfl hf fun h23 hf => ?_
      refine z_aload_n 2 dX12_play_93 rfl rfl ?_
      refine z_getA dX12_play_94 zc12 (by decide) wf_X12_22 hf fun x24 hf => ?_
      refine z_aload_n 2 dX12_play_97 rfl rfl ?_
      refine z_getI dX12_play_98 zc12 (by decide) wf_X12_43 hf fun x25 hf => ?_
      refine z_aload_n 2 dX12_play_101 rfl rfl ?_
      refine z_getA dX12_play_102 zc12 (by decide) wf_X12_22 hf fun x26 hf => ?_
      refine z_aload_n 2 dX12_play_105 rfl rfl ?_
      refine z_getI dX12_play_106 zc12 (by decide) wf_X12_43 hf fun x27 hf => ?_
      refine z_aaload dX12_play_109 hf fun x28 hf => ?_
      refine z_iload_n 3 dX12_play_110 rfl rfl ?_
      refine z_cSN_a (d' := d - 1) (As := [.ref x28, .int p1]) (rest := [.int x25, .ref x24]) dX12_play_111 lk_X12_126 hf (fun w1 e1 => zc_L_without (by omega) e1) (by omega) rfl rfl (Nat.le_of_ble_eq_true rfl) fun y29 hf => ?_
      refine z_aastR dX12_play_114 wo_6 hf fun h30 hf => ?_
      refine z_aload_n 2 dX12_play_115 rfl rfl ?_
      refine z_cV_i (d' := d - 1) (As := []) (rest := []) dX12_play_116 lk_X12_130 rfl hf (fun w1 e1 => zc_X12_finish (by omega) e1) (by omega) rfl rfl (Nat.le_of_ble_eq_true rfl) fun y31 hf => ?_
      exact z_iret dX12_play_119 rfl (by cases hf; rfl)
    · refine z_iconst (-1 : Int32) dX12_play_41 (by decide) ?_
      exact z_iret dX12_play_42 rfl (by cases hf; rfl)
set_option maxRecDepth 4000 in
theorem zc_X8_productOf {Γ : zG} {N d : Nat} (hd : 13 ≤ d) {a : Nat} {p1 : Int32} {p2 : Int32} {h : zH} {w : (Int32 ⊕ Nat) × zH} (hf : f_X8_productOf N a p1 p2 h = some w) : Zm Γ m_X8_productOf d [.ref a, .int p1, .int p2] h (zoTI w) := by
  unfold f_X8_productOf at hf
  refine z_meth rfl (plainFor_of_name wpl_X8) (by simp [lg_sl, Value.category, zml, m_X8_productOf]) ?_
  refine z_iload_n 1 dX8_productOf_0 rfl rfl ?_
  refine z_if_lt 23 dX8_productOf_1 (by decide) hf (fun hf => ?_) (fun hf => ?_)
  · exact z_throw 1 (by decide) dX8_productOf_23 dX8_productOf_26 dX8_productOf_27 dX8_productOf_30 wc_X8_62 wi_x1 wx_X8_64a wx_X8_64b (by omega) rfl (Nat.le_of_ble_eq_true rfl) (by cases hf; rfl)
  · refine z_iload_n 2 dX8_productOf_4 rfl rfl ?_
    refine z_iload_n 1 dX8_productOf_5 rfl rfl ?_
    refine z_icmp_lt 23 dX8_productOf_6 (by decide) hf (fun hf => ?_) (fun hf => ?_)
    · exact z_throw 1 (by decide) dX8_productOf_23 dX8_productOf_26 dX8_productOf_27 dX8_productOf_30 wc_X8_62 wi_x1 wx_X8_64a wx_X8_64b (by omega) rfl (Nat.le_of_ble_eq_true rfl) (by cases hf; rfl)
    · refine z_iload_n 2 dX8_productOf_9 rfl rfl ?_
      refine z_aload_n 0 dX8_productOf_10 rfl rfl ?_
      refine z_getA dX8_productOf_11 zc8 (by decide) wf_X8_28 hf fun x1 hf => ?_
      refine z_getA dX8_productOf_14 zc0 (by decide) wf_X8_107 hf fun x2 hf => ?_
      refine z_cV_i (d' := d - 1) (As := []) (rest := [.int p2]) dX8_productOf_17 lk_X8_93 rfl hf (fun w1 e1 => zc_X6_size (by omega) e1) (by omega) rfl rfl (Nat.le_of_ble_eq_true rfl) fun y3 hf => ?_
      refine z_icmp_le 31 dX8_productOf_20 (by decide) hf (fun hf => ?_) (fun hf => ?_)
      · refine z_aload_n 0 dX8_productOf_31 rfl rfl ?_
        refine z_aload_n 0 dX8_productOf_32 rfl rfl ?_
        refine z_getA dX8_productOf_33 zc8 (by decide) wf_X8_28 hf fun x4 hf => ?_
        refine z_iload_n 1 dX8_productOf_36 rfl rfl ?_
        refine z_iload_n 2 dX8_productOf_37 rfl rfl ?_
        refine z_cV_i (d' := d - 1) (As := [.int p1, .int p2]) (rest := [.ref a]) dX8_productOf_38 lk_X8_160 rfl hf (fun w1 e1 => zc_X0_productOfBids (by omega) e1) (by omega) rfl rfl (Nat.le_of_ble_eq_true rfl) fun y5 hf => ?_
        refine z_cV_i (d' := d - 1) (As := [.int y5.1]) (rest := []) dX8_productOf_41 lk_X8_144 rfl hf (fun w1 e1 => zc_X8_numberOf (by omega) e1) (by omega) rfl rfl (Nat.le_of_ble_eq_true rfl) fun y6 hf => ?_
        exact z_iret dX8_productOf_44 rfl (by cases hf; rfl)
      · exact z_throw 1 (by decide) dX8_productOf_23 dX8_productOf_26 dX8_productOf_27 dX8_productOf_30 wc_X8_62 wi_x1 wx_X8_64a wx_X8_64b (by omega) rfl (Nat.le_of_ble_eq_true rfl) (by cases hf; rfl)
set_option maxRecDepth 4000 in
theorem zc_L_productOf {Γ : zG} {N d : Nat} (hd : 14 ≤ d) {p1 : Nat} {p2 : Int32} {p3 : Int32} {h : zH} {w : Int32 × zH} (hf : f_L_productOf N p1 p2 p3 h = some w) : Zm Γ m_L_productOf d [.ref p1, .int p2, .int p3] h (zoI w) := by
  unfold f_L_productOf at hf
  refine z_methH (by decide) (by decide +kernel) (by simp [lg_sl, Value.category, zml, m_L_productOf]) ?_
  refine z_aload_n 0 dL_productOf_0 rfl rfl ?_
  refine z_iload_n 1 dL_productOf_1 rfl rfl ?_
  refine z_iload_n 2 dL_productOf_2 rfl rfl ?_
  refine z_cV_ti (d' := d - 1) (As := [.int p2, .int p3]) (rest := []) dL_productOf_3 lk_L_63 rfl hf (fun w1 e1 => zc_X8_productOf (by omega) e1) (by omega) rfl rfl (Nat.le_of_ble_eq_true rfl) (fun y1 x2 hf => ?_) (fun y1 k3 hf => ?_)
  · exact z_iret dL_productOf_6 rfl (by cases hf; rfl)
  · by_cases e0 : k3 = 1
    · rw [if_pos e0] at hf
      subst e0
      refine zx_catch (by decide) [] (0, 6, 7, 40) [] rfl (fun z hz => absurd hz List.not_mem_nil) (by decide) (by decide) wc_L_40 wct_1 fun q4 => ?_
      refine z_astore_n [(3, .ref q4), (0, .ref p1), (1, .int p2), (2, .int p3)] dL_productOf_7 rfl (by decide) rfl ?_
      refine z_ldc (-2000000098 : Int32) dL_productOf_8 wk_L_42 ?_
      exact z_iret dL_productOf_10 rfl (by cases hf; rfl)
    · rw [if_neg e0] at hf
      cases hf
set_option maxRecDepth 4000 in
theorem zl_J7_fill_d0a16_6 {Γ : zG} {N d : Nat} {h0 : zH} (hd : 10 ≤ d) {v0 : Nat} {v1 : Int64} {v4 : Int32}  {w : zH}   : ∀ (n : Nat) (v3 : Int32) (h : zH), f_J7_fill_d0a16_l6 N v0 v1 v4 n v3 h = some w → Z Γ m_J7_fill_d0a16 d h0 (zoV w) 6 [(0, .ref v0), (1, .long v1), (3, .int v3), (4, .int v4)] [] h := by
  intro n
  induction n with
  | zero => intro v3 h hf; cases hf
  | succ n ih =>
    intro v3 h hf
    rw [f_J7_fill_d0a16_l6] at hf
    refine z_iload_n 2 dJ7_fill_d0a16_6 rfl rfl ?_
    refine z_iload 3 dJ7_fill_d0a16_7 rfl ?_
    refine z_icmp_ge 22 dJ7_fill_d0a16_9 (by decide) hf (fun hf => ?_) (fun hf => ?_)
    · exact z_vret dJ7_fill_d0a16_22 rfl (by cases hf; rfl)
    · refine z_aload_n 0 dJ7_fill_d0a16_12 rfl rfl ?_
      refine z_iload_n 2 dJ7_fill_d0a16_13 rfl rfl ?_
      refine z_lload_n 1 dJ7_fill_d0a16_14 rfl rfl ?_
      refine z_lastore dJ7_fill_d0a16_15 hf fun h2 hf => ?_
      refine z_iinc (v3 + (1 : Int32)) 2 [(3, .int (v3 + (1 : Int32))), (0, .ref v0), (1, .long v1), (4, .int v4)] dJ7_fill_d0a16_16 rfl rfl (by decide) rfl ?_
      refine z_goto 6 dJ7_fill_d0a16_19 (by decide) ?_
      exact Z.sub [1, 2, 0, 3] rfl (ih (v3 + (1 : Int32)) h2 hf)
set_option maxRecDepth 4000 in
theorem zc_J7_fill_d0a16 {Γ : zG} {N d : Nat} (hd : 10 ≤ d) {p1 : Nat} {p2 : Int64} {h : zH} {w : zH} (hf : f_J7_fill_d0a16 N p1 p2 h = some w) : Zm Γ m_J7_fill_d0a16 d [.ref p1, .long p2] h (zoV w) := by
  unfold f_J7_fill_d0a16 at hf
  refine z_meth rfl (plainFor_of_name (by decide +kernel)) (by simp [lg_sl, Value.category, zml, m_J7_fill_d0a16]) ?_
  refine z_iconst (0 : Int32) dJ7_fill_d0a16_0 (by decide) ?_
  refine z_istore_n [(3, .int (0 : Int32)), (0, .ref p1), (1, .long p2)] dJ7_fill_d0a16_1 rfl (by decide) rfl ?_
  refine z_aload_n 1 dJ7_fill_d0a16_2 rfl rfl ?_
  refine z_alen dJ7_fill_d0a16_3 hf fun x1 hf => ?_
  refine z_istore [(4, .int x1), (3, .int (0 : Int32)), (0, .ref p1), (1, .long p2)] dJ7_fill_d0a16_4 (by decide) rfl ?_
  refine Z.sub [2, 3, 1, 0] rfl (zl_J7_fill_d0a16_6 hd  N (0 : Int32) h hf)
set_option maxRecDepth 4000 in
theorem zl_X2_count_4 {Γ : zG} {N d : Nat} {h0 : zH} (hd : 10 ≤ d) {v1 : Int32}  {w : Int32 × zH}   : ∀ (n : Nat) (v2 : Int32) (v3 : Int32) (h : zH), f_X2_count_l4 N v1 n v2 v3 h = some w → Z Γ m_X2_count d h0 (zoI w) 4 [(1, .int v1), (2, .int v2), (3, .int v3)] [] h := by
  intro n
  induction n with
  | zero => intro v2 v3 h hf; cases hf
  | succ n ih =>
    intro v2 v3 h hf
    rw [f_X2_count_l4] at hf
    refine z_iload_n 2 dX2_count_4 rfl rfl ?_
    refine z_iload_n 0 dX2_count_5 rfl rfl ?_
    refine z_icmp_gt 24 dX2_count_6 (by decide) hf (fun hf => ?_) (fun hf => ?_)
    · refine z_iload_n 1 dX2_count_24 rfl rfl ?_
      exact z_iret dX2_count_25 rfl (by cases hf; rfl)
    · refine z_iload_n 2 dX2_count_9 rfl rfl ?_
      refine z_iconst (5 : Int32) dX2_count_10 (by decide) ?_
      refine z_icmp_gt 24 dX2_count_11 (by decide) hf (fun hf => ?_) (fun hf => ?_)
      · refine z_iload_n 1 dX2_count_24 rfl rfl ?_
        exact z_iret dX2_count_25 rfl (by cases hf; rfl)
      · refine z_iload_n 1 dX2_count_14 rfl rfl ?_
        refine z_iload_n 2 dX2_count_15 rfl rfl ?_
        refine z_imul dX2_count_16 ?_
        refine z_istore_n [(2, .int (v2 * v3)), (1, .int v1), (3, .int v3)] dX2_count_17 rfl (by decide) rfl ?_
        refine z_iinc (v3 + (1 : Int32)) 2 [(3, .int (v3 + (1 : Int32))), (2, .int (v2 * v3)), (1, .int v1)] dX2_count_18 rfl rfl (by decide) rfl ?_
        refine z_goto 4 dX2_count_21 (by decide) ?_
        exact Z.sub [2, 1, 0] rfl (ih (v2 * v3) (v3 + (1 : Int32)) h hf)
set_option maxRecDepth 4000 in
theorem zc_X2_count {Γ : zG} {N d : Nat} (hd : 10 ≤ d) {a : Nat} {p1 : Int32} {h : zH} {w : Int32 × zH} (hf : f_X2_count N a p1 h = some w) : Zm Γ m_X2_count d [.ref a, .int p1] h (zoI w) := by
  unfold f_X2_count at hf
  refine z_meth rfl (plainFor_of_name wpl_X2) (by simp [lg_sl, Value.category, zml, m_X2_count]) ?_
  refine z_iconst (1 : Int32) dX2_count_0 (by decide) ?_
  refine z_istore_n [(2, .int (1 : Int32)), (0, .ref a), (1, .int p1)] dX2_count_1 rfl (by decide) rfl ?_
  refine z_iconst (2 : Int32) dX2_count_2 (by decide) ?_
  refine z_istore_n [(3, .int (2 : Int32)), (2, .int (1 : Int32)), (0, .ref a), (1, .int p1)] dX2_count_3 rfl (by decide) rfl ?_
  refine Z.sub [3, 1, 0] rfl (zl_X2_count_4 hd  N (1 : Int32) (2 : Int32) h hf)
set_option maxRecDepth 4000 in
theorem zl_X3_takeHand_74 {Γ : zG} {N d : Nat} {h0 : zH} (hd : 12 ≤ d) {v0 : Nat} {v1 : Nat} {v3 : Int32} {v4 : Int32} {v5 : Int32} {k1 : zH → Option (zH)} {w : zH}  (hk1 : ∀ (h : zH), k1 h = some w → Z Γ m_X3_takeHand d h0 (zoV w) 110 [(0, .ref v0), (1, .ref v1), (3, .int v3), (4, .int v4)] [] h) : ∀ (n : Nat) (v6 : Int32) (h : zH), f_X3_takeHand_l74 N v0 v1 v3 v4 v5 k1 n v6 h = some w → Z Γ m_X3_takeHand d h0 (zoV w) 74 [(0, .ref v0), (1, .ref v1), (3, .int v3), (4, .int v4), (5, .int v5), (6, .int v6)] [] h := by
  intro n
  induction n with
  | zero => intro v6 h hf; cases hf
  | succ n ih =>
    intro v6 h hf
    rw [f_X3_takeHand_l74] at hf
    refine z_iload 5 dX3_takeHand_74 rfl ?_
    refine z_iload_n 2 dX3_takeHand_76 rfl rfl ?_
    refine z_icmp_ge 110 dX3_takeHand_77 (by decide) hf (fun hf => ?_) (fun hf => ?_)
    · exact Z.sub [0, 1, 2, 3] rfl (hk1 h hf)
    · refine z_aload_n 0 dX3_takeHand_80 rfl rfl ?_
      refine z_getA dX3_takeHand_81 zc3 (by decide) wf_X3_15 hf fun x15 hf => ?_
      refine z_iload 3 dX3_takeHand_84 rfl ?_
      refine z_bipush (120 : Int32) dX3_takeHand_86 (by decide) ?_
      refine z_imul dX3_takeHand_88 ?_
      refine z_iload 5 dX3_takeHand_89 rfl ?_
      refine z_iadd dX3_takeHand_91 ?_
      refine z_aload_n 0 dX3_takeHand_92 rfl rfl ?_
      refine z_getA dX3_takeHand_93 zc3 (by decide) wf_X3_11 hf fun x16 hf => ?_
      refine z_iload 5 dX3_takeHand_96 rfl ?_
      refine z_iload 4 dX3_takeHand_98 rfl ?_
      refine z_cV_i (d' := d - 1) (As := [.int v6, .int v5]) (rest := [.int ((v4 * (120 : Int32)) + v6), .ref x15]) dX3_takeHand_100 lk_X3_80 rfl hf (fun w1 e1 => zc_X2_times (by omega) e1) (by omega) rfl rfl (Nat.le_of_ble_eq_true rfl) fun y17 hf => ?_
      refine z_iastore dX3_takeHand_103 hf fun h18 hf => ?_
      refine z_iinc (v6 + (1 : Int32)) 5 [(6, .int (v6 + (1 : Int32))), (0, .ref v0), (1, .ref v1), (3, .int v3), (4, .int v4), (5, .int v5)] dX3_takeHand_104 rfl rfl (by decide) rfl ?_
      refine z_goto 74 dX3_takeHand_107 (by decide) ?_
      exact Z.sub [1, 2, 3, 4, 5, 0] rfl (ih (v6 + (1 : Int32)) h18 hf)
set_option maxRecDepth 4000 in
theorem zl_X3_takeHand_51 {Γ : zG} {N d : Nat} {h0 : zH} (hd : 12 ≤ d) {v0 : Nat} {v1 : Nat} {v3 : Int32}  {w : zH}   : ∀ (n : Nat) (v4 : Int32) (h : zH), f_X3_takeHand_l51 N v0 v1 v3 n v4 h = some w → Z Γ m_X3_takeHand d h0 (zoV w) 51 [(0, .ref v0), (1, .ref v1), (3, .int v3), (4, .int v4)] [] h := by
  intro n
  induction n with
  | zero => intro v4 h hf; cases hf
  | succ n ih =>
    intro v4 h hf
    rw [f_X3_takeHand_l51] at hf
    refine z_iload 3 dX3_takeHand_51 rfl ?_
    refine z_aload_n 0 dX3_takeHand_53 rfl rfl ?_
    refine z_getI dX3_takeHand_54 zc3 (by decide) wf_X3_44 hf fun x12 hf => ?_
    refine z_icmp_ge 116 dX3_takeHand_57 (by decide) hf (fun hf => ?_) (fun hf => ?_)
    · exact z_vret dX3_takeHand_116 rfl (by cases hf; rfl)
    · refine z_aload_n 1 dX3_takeHand_60 rfl rfl ?_
      refine z_getA dX3_takeHand_61 zc1 (by decide) wf_X3_56 hf fun x13 hf => ?_
      refine z_iload 3 dX3_takeHand_64 rfl ?_
      refine z_cV_i (d' := d - 1) (As := [.int v4]) (rest := []) dX3_takeHand_66 lk_X3_77 rfl hf (fun w1 e1 => zc_X6_at (by omega) e1) (by omega) rfl rfl (Nat.le_of_ble_eq_true rfl) fun y14 hf => ?_
      refine z_istore [(5, .int y14.1), (0, .ref v0), (1, .ref v1), (3, .int v3), (4, .int v4)] dX3_takeHand_69 (by decide) rfl ?_
      refine z_iconst (0 : Int32) dX3_takeHand_71 (by decide) ?_
      refine z_istore [(6, .int (0 : Int32)), (5, .int y14.1), (0, .ref v0), (1, .ref v1), (3, .int v3), (4, .int v4)] dX3_takeHand_72 (by decide) rfl ?_
      refine Z.sub [2, 3, 4, 5, 1, 0] rfl (zl_X3_takeHand_74 hd (fun h19 hf => ?_) N (0 : Int32) y14.2 hf)
      · refine z_iinc (v4 + (1 : Int32)) 3 [(4, .int (v4 + (1 : Int32))), (0, .ref v0), (1, .ref v1), (3, .int v3)] dX3_takeHand_110 rfl rfl (by decide) rfl ?_
        refine z_goto 51 dX3_takeHand_113 (by decide) ?_
        exact Z.sub [1, 2, 3, 0] rfl (ih (v4 + (1 : Int32)) h19 hf)
set_option maxRecDepth 4000 in
theorem zc_X3_takeHand {Γ : zG} {N d : Nat} (hd : 12 ≤ d) {a : Nat} {p1 : Nat} {p2 : Int32} {h : zH} {w : zH} (hf : f_X3_takeHand N a p1 p2 h = some w) : Zm Γ m_X3_takeHand d [.ref a, .ref p1, .int p2] h (zoV w) := by
  unfold f_X3_takeHand at hf
  refine z_meth rfl (plainFor_of_name wpl_X3) (by simp [lg_sl, Value.category, zml, m_X3_takeHand]) ?_
  refine z_aload_n 0 dX3_takeHand_0 rfl rfl ?_
  refine z_getA dX3_takeHand_1 zc3 (by decide) wf_X3_19 hf fun x1 hf => ?_
  refine z_lconst (0 : Int64) dX3_takeHand_4 (by decide) ?_
  refine z_cS_v (d' := d - 1) (As := [.ref x1, .long (0 : Int64)]) (rest := []) dX3_takeHand_5 lk_X3_50 hf (fun w1 e1 => zc_J7_fill_d0a16 (by omega) e1) (by omega) rfl rfl (Nat.le_of_ble_eq_true rfl) fun y2 hf => ?_
  refine z_aload_n 0 dX3_takeHand_8 rfl rfl ?_
  refine z_aload_n 1 dX3_takeHand_9 rfl rfl ?_
  refine z_getA dX3_takeHand_10 zc1 (by decide) wf_X3_56 hf fun x3 hf => ?_
  refine z_cV_i (d' := d - 1) (As := []) (rest := [.ref a]) dX3_takeHand_13 lk_X3_61 rfl hf (fun w1 e1 => zc_X6_size (by omega) e1) (by omega) rfl rfl (Nat.le_of_ble_eq_true rfl) fun y4 hf => ?_
  refine z_bipush (8 : Int32) dX3_takeHand_16 (by decide) ?_
  refine z_cS_i (d' := d - 1) (As := [.int y4.1, .int (8 : Int32)]) (rest := [.ref a]) dX3_takeHand_18 lk_X3_65 hf (fun w1 e1 => zc_J9_min_7cf53 (by omega) e1) (by omega) rfl rfl (Nat.le_of_ble_eq_true rfl) fun y5 hf => ?_
  refine z_putB dX3_takeHand_21 zc3 (by decide) wf_X3_44 (Or.inl rfl) rfl rfl hf fun h6 hf => ?_
  refine z_aload_n 0 dX3_takeHand_24 rfl rfl ?_
  refine z_iconst (1 : Int32) dX3_takeHand_25 (by decide) ?_
  refine z_aload_n 0 dX3_takeHand_26 rfl rfl ?_
  refine z_getI dX3_takeHand_27 zc3 (by decide) wf_X3_44 hf fun x7 hf => ?_
  refine z_ishl dX3_takeHand_30 ?_
  refine z_putB dX3_takeHand_31 zc3 (by decide) wf_X3_40 (Or.inl rfl) rfl rfl hf fun h8 hf => ?_
  refine z_aload_n 0 dX3_takeHand_34 rfl rfl ?_
  refine z_getA dX3_takeHand_35 zc3 (by decide) wf_X3_11 hf fun x9 hf => ?_
  refine z_iload_n 2 dX3_takeHand_38 rfl rfl ?_
  refine z_cV_i (d' := d - 1) (As := [.int p2]) (rest := []) dX3_takeHand_39 lk_X3_71 rfl hf (fun w1 e1 => zc_X2_count (by omega) e1) (by omega) rfl rfl (Nat.le_of_ble_eq_true rfl) fun y10 hf => ?_
  refine z_bipush (120 : Int32) dX3_takeHand_42 (by decide) ?_
  refine z_cS_i (d' := d - 1) (As := [.int y10.1, .int (120 : Int32)]) (rest := []) dX3_takeHand_44 lk_X3_65 hf (fun w1 e1 => zc_J9_min_7cf53 (by omega) e1) (by omega) rfl rfl (Nat.le_of_ble_eq_true rfl) fun y11 hf => ?_
  refine z_istore_n [(3, .int y11.1), (0, .ref a), (1, .ref p1), (2, .int p2)] dX3_takeHand_47 rfl (by decide) rfl ?_
  refine z_iconst (0 : Int32) dX3_takeHand_48 (by decide) ?_
  refine z_istore [(4, .int (0 : Int32)), (3, .int y11.1), (0, .ref a), (1, .ref p1), (2, .int p2)] dX3_takeHand_49 (by decide) rfl ?_
  refine Z.sub [2, 3, 1, 0] rfl (zl_X3_takeHand_51 hd  N (0 : Int32) y11.2 hf)

set_option maxRecDepth 4000 in
theorem zc_X8_errorOffset {Γ : zG} {N d : Nat} (hd : 10 ≤ d) {a : Nat} {h : zH} {w : Int32 × zH} (hf : f_X8_errorOffset N a h = some w) : Zm Γ m_X8_errorOffset d [.ref a] h (zoI w) := by
  unfold f_X8_errorOffset at hf
  refine z_meth rfl (plainFor_of_name wpl_X8) (by simp [lg_sl, Value.category, zml, m_X8_errorOffset]) ?_
  refine z_aload_n 0 dX8_errorOffset_0 rfl rfl ?_
  refine z_getI dX8_errorOffset_1 zc8 (by decide) wf_X8_46 hf fun x1 hf => ?_
  exact z_iret dX8_errorOffset_4 rfl (by cases hf; rfl)
set_option maxRecDepth 4000 in
theorem zc_X4_size {Γ : zG} {N d : Nat} (hd : 10 ≤ d) {a : Nat} {h : zH} {w : Int32 × zH} (hf : f_X4_size N a h = some w) : Zm Γ m_X4_size d [.ref a] h (zoI w) := by
  unfold f_X4_size at hf
  refine z_meth rfl (plainFor_of_name wpl_X4) (by simp [lg_sl, Value.category, zml, m_X4_size]) ?_
  refine z_aload_n 0 dX4_size_0 rfl rfl ?_
  refine z_getI dX4_size_1 zc4 (by decide) wf_X4_20 hf fun x1 hf => ?_
  exact z_iret dX4_size_4 rfl (by cases hf; rfl)
set_option maxRecDepth 4000 in
theorem zc_J9_floorMod_7cf53 {Γ : zG} {N d : Nat} (hd : 10 ≤ d) {p1 : Int32} {p2 : Int32} {h : zH} {w : Int32 × zH} (hf : f_J9_floorMod_7cf53 N p1 p2 h = some w) : Zm Γ m_J9_floorMod_7cf53 d [.int p1, .int p2] h (zoI w) := by
  unfold f_J9_floorMod_7cf53 at hf
  refine z_meth rfl (by decide +kernel) (by simp [lg_sl, Value.category, zml, m_J9_floorMod_7cf53]) ?_
  refine z_iload_n 0 dJ9_floorMod_7cf53_0 rfl rfl ?_
  refine z_iload_n 1 dJ9_floorMod_7cf53_1 rfl rfl ?_
  refine z_irem dJ9_floorMod_7cf53_2 hf fun x1 hf => ?_
  refine z_istore_n [(2, .int x1), (0, .int p1), (1, .int p2)] dJ9_floorMod_7cf53_3 rfl (by decide) rfl ?_
  refine z_iload_n 1 dJ9_floorMod_7cf53_4 rfl rfl ?_
  refine z_iload_n 2 dJ9_floorMod_7cf53_5 rfl rfl ?_
  refine z_ixor dJ9_floorMod_7cf53_6 ?_
  refine z_if_ge 18 dJ9_floorMod_7cf53_7 (by decide) hf (fun hf => ?_) (fun hf => ?_)
  · refine z_iload_n 0 dJ9_floorMod_7cf53_18 rfl rfl ?_
    exact z_iret dJ9_floorMod_7cf53_19 rfl (by cases hf; rfl)
  · refine z_iload_n 0 dJ9_floorMod_7cf53_10 rfl rfl ?_
    refine z_if_eq 18 dJ9_floorMod_7cf53_11 (by decide) hf (fun hf => ?_) (fun hf => ?_)
    · refine z_iload_n 0 dJ9_floorMod_7cf53_18 rfl rfl ?_
      exact z_iret dJ9_floorMod_7cf53_19 rfl (by cases hf; rfl)
    · refine z_iload_n 0 dJ9_floorMod_7cf53_14 rfl rfl ?_
      refine z_iload_n 2 dJ9_floorMod_7cf53_15 rfl rfl ?_
      refine z_iadd dJ9_floorMod_7cf53_16 ?_
      exact z_iret dJ9_floorMod_7cf53_17 rfl (by cases hf; rfl)
set_option maxRecDepth 4000 in
theorem zc_X4_placeOf {Γ : zG} {N d : Nat} (hd : 11 ≤ d) {a : Nat} {p1 : Int32} {h : zH} {w : Int32 × zH} (hf : f_X4_placeOf N a p1 h = some w) : Zm Γ m_X4_placeOf d [.ref a, .int p1] h (zoI w) := by
  unfold f_X4_placeOf at hf
  refine z_meth rfl (plainFor_of_name wpl_X4) (by simp [lg_sl, Value.category, zml, m_X4_placeOf]) ?_
  refine z_aload_n 0 dX4_placeOf_0 rfl rfl ?_
  refine z_getI dX4_placeOf_1 zc4 (by decide) wf_X4_24 hf fun x1 hf => ?_
  refine z_iload_n 1 dX4_placeOf_4 rfl rfl ?_
  refine z_iadd dX4_placeOf_5 ?_
  refine z_bipush (8 : Int32) dX4_placeOf_6 (by decide) ?_
  refine z_cS_i (d' := d - 1) (As := [.int (x1 + p1), .int (8 : Int32)]) (rest := []) dX4_placeOf_8 lk_X4_27 hf (fun w1 e1 => zc_J9_floorMod_7cf53 (by omega) e1) (by omega) rfl rfl (Nat.le_of_ble_eq_true rfl) fun y2 hf => ?_
  exact z_iret dX4_placeOf_11 rfl (by cases hf; rfl)
set_option maxRecDepth 4000 in
theorem zc_J9_min_7cf53 {Γ : zG} {N d : Nat} (hd : 10 ≤ d) {p1 : Int32} {p2 : Int32} {h : zH} {w : Int32 × zH} (hf : f_J9_min_7cf53 N p1 p2 h = some w) : Zm Γ m_J9_min_7cf53 d [.int p1, .int p2] h (zoI w) := by
  unfold f_J9_min_7cf53 at hf
  refine z_meth rfl (by decide +kernel) (by simp [lg_sl, Value.category, zml, m_J9_min_7cf53]) ?_
  refine z_iload_n 0 dJ9_min_7cf53_0 rfl rfl ?_
  refine z_iload_n 1 dJ9_min_7cf53_1 rfl rfl ?_
  refine z_icmp_gt 9 dJ9_min_7cf53_2 (by decide) hf (fun hf => ?_) (fun hf => ?_)
  · refine z_iload_n 1 dJ9_min_7cf53_9 rfl rfl ?_
    exact z_iret dJ9_min_7cf53_10 rfl (by cases hf; rfl)
  · refine z_iload_n 0 dJ9_min_7cf53_5 rfl rfl ?_
    refine z_goto 10 dJ9_min_7cf53_6 (by decide) ?_
    exact z_iret dJ9_min_7cf53_10 rfl (by cases hf; rfl)
set_option maxRecDepth 4000 in
theorem zc_X6_copyFrom {Γ : zG} {N d : Nat} (hd : 11 ≤ d) {a : Nat} {p1 : Nat} {h : zH} {w : zH} (hf : f_X6_copyFrom N a p1 h = some w) : Zm Γ m_X6_copyFrom d [.ref a, .ref p1] h (zoV w) := by
  unfold f_X6_copyFrom at hf
  refine z_meth rfl (plainFor_of_name wpl_X6) (by simp [lg_sl, Value.category, zml, m_X6_copyFrom]) ?_
  refine z_iconst (0 : Int32) dX6_copyFrom_0 (by decide) ?_
  refine z_aload_n 1 dX6_copyFrom_1 rfl rfl ?_
  refine z_getI dX6_copyFrom_2 zc6 (by decide) wf_X6_19 hf fun x1 hf => ?_
  refine z_aload_n 1 dX6_copyFrom_5 rfl rfl ?_
  refine z_getA dX6_copyFrom_6 zc6 (by decide) wf_X6_13 hf fun x2 hf => ?_
  refine z_alen dX6_copyFrom_9 hf fun x3 hf => ?_
  refine z_aload_n 0 dX6_copyFrom_10 rfl rfl ?_
  refine z_getA dX6_copyFrom_11 zc6 (by decide) wf_X6_13 hf fun x4 hf => ?_
  refine z_alen dX6_copyFrom_14 hf fun x5 hf => ?_
  refine z_cS_i (d' := d - 1) (As := [.int x3, .int x5]) (rest := [.int x1, .int (0 : Int32)]) dX6_copyFrom_15 lk_X6_27 hf (fun w1 e1 => zc_J9_min_7cf53 (by omega) e1) (by omega) rfl rfl (Nat.le_of_ble_eq_true rfl) fun y6 hf => ?_
  refine z_cS_i (d' := d - 1) (As := [.int x1, .int y6.1]) (rest := [.int (0 : Int32)]) dX6_copyFrom_18 lk_X6_27 hf (fun w1 e1 => zc_J9_min_7cf53 (by omega) e1) (by omega) rfl rfl (Nat.le_of_ble_eq_true rfl) fun y7 hf => ?_
  refine z_cS_i (d' := d - 1) (As := [.int (0 : Int32), .int y7.1]) (rest := []) dX6_copyFrom_21 lk_X6_7 hf (fun w1 e1 => zc_J9_max_7cf53 (by omega) e1) (by omega) rfl rfl (Nat.le_of_ble_eq_true rfl) fun y8 hf => ?_
  refine z_istore_n [(2, .int y8.1), (0, .ref a), (1, .ref p1)] dX6_copyFrom_24 rfl (by decide) rfl ?_
  refine z_aload_n 2 dX6_copyFrom_25 rfl rfl ?_
  refine z_getA dX6_copyFrom_26 zc6 (by decide) wf_X6_13 hf fun x9 hf => ?_
  refine z_iconst (0 : Int32) dX6_copyFrom_29 (by decide) ?_
  refine z_aload_n 1 dX6_copyFrom_30 rfl rfl ?_
  refine z_getA dX6_copyFrom_31 zc6 (by decide) wf_X6_13 hf fun x10 hf => ?_
  refine z_iconst (0 : Int32) dX6_copyFrom_34 (by decide) ?_
  refine z_iload_n 0 dX6_copyFrom_35 rfl rfl ?_
  refine z_copyI dX6_copyFrom_36 wl_X6_30 wi_acn wi_acs wi_sys (by omega) (Nat.le_of_ble_eq_true rfl) hf fun h11 hf => ?_
  refine z_aload_n 1 dX6_copyFrom_39 rfl rfl ?_
  refine z_iload_n 0 dX6_copyFrom_40 rfl rfl ?_
  refine z_putB dX6_copyFrom_41 zc6 (by decide) wf_X6_19 (Or.inl rfl) rfl rfl hf fun h12 hf => ?_
  exact z_vret dX6_copyFrom_44 rfl (by cases hf; rfl)
set_option maxRecDepth 4000 in
theorem zc_X1_copyFrom {Γ : zG} {N d : Nat} (hd : 12 ≤ d) {a : Nat} {p1 : Nat} {h : zH} {w : zH} (hf : f_X1_copyFrom N a p1 h = some w) : Zm Γ m_X1_copyFrom d [.ref a, .ref p1] h (zoV w) := by
  unfold f_X1_copyFrom at hf
  refine z_meth rfl (plainFor_of_name wpl_X1) (by simp [lg_sl, Value.category, zml, m_X1_copyFrom]) ?_
  refine z_aload_n 0 dX1_copyFrom_0 rfl rfl ?_
  refine z_aload_n 1 dX1_copyFrom_1 rfl rfl ?_
  refine z_getI dX1_copyFrom_2 zc1 (by decide) wf_X1_23 hf fun x1 hf => ?_
  refine z_putB dX1_copyFrom_5 zc1 (by decide) wf_X1_23 (Or.inl rfl) rfl rfl hf fun h2 hf => ?_
  refine z_aload_n 0 dX1_copyFrom_8 rfl rfl ?_
  refine z_aload_n 1 dX1_copyFrom_9 rfl rfl ?_
  refine z_getI dX1_copyFrom_10 zc1 (by decide) wf_X1_27 hf fun x3 hf => ?_
  refine z_putB dX1_copyFrom_13 zc1 (by decide) wf_X1_27 (Or.inl rfl) rfl rfl hf fun h4 hf => ?_
  refine z_aload_n 0 dX1_copyFrom_16 rfl rfl ?_
  refine z_getA dX1_copyFrom_17 zc1 (by decide) wf_X1_14 hf fun x5 hf => ?_
  refine z_aload_n 1 dX1_copyFrom_20 rfl rfl ?_
  refine z_getA dX1_copyFrom_21 zc1 (by decide) wf_X1_14 hf fun x6 hf => ?_
  refine z_cV_v (d' := d - 1) (As := [.ref x6]) (rest := []) dX1_copyFrom_24 lk_X1_33 rfl hf (fun w1 e1 => zc_X6_copyFrom (by omega) e1) (by omega) rfl rfl (Nat.le_of_ble_eq_true rfl) fun y7 hf => ?_
  refine z_aload_n 0 dX1_copyFrom_27 rfl rfl ?_
  refine z_getA dX1_copyFrom_28 zc1 (by decide) wf_X1_20 hf fun x8 hf => ?_
  refine z_aload_n 1 dX1_copyFrom_31 rfl rfl ?_
  refine z_getA dX1_copyFrom_32 zc1 (by decide) wf_X1_20 hf fun x9 hf => ?_
  refine z_cV_v (d' := d - 1) (As := [.ref x9]) (rest := []) dX1_copyFrom_35 lk_X1_33 rfl hf (fun w1 e1 => zc_X6_copyFrom (by omega) e1) (by omega) rfl rfl (Nat.le_of_ble_eq_true rfl) fun y10 hf => ?_
  exact z_vret dX1_copyFrom_38 rfl (by cases hf; rfl)
set_option maxRecDepth 4000 in
theorem zl_X0_copyFrom_18 {Γ : zG} {N d : Nat} {h0 : zH} (hd : 13 ≤ d) {v0 : Nat} {v1 : Nat} {k1 : zH → Option (zH)} {w : zH}  (hk1 : ∀ (h : zH), k1 h = some w → Z Γ m_X0_copyFrom d h0 (zoV w) 44 [(0, .ref v0), (1, .ref v1)] [] h) : ∀ (n : Nat) (v2 : Int32) (h : zH), f_X0_copyFrom_l18 N v0 v1 k1 n v2 h = some w → Z Γ m_X0_copyFrom d h0 (zoV w) 18 [(0, .ref v0), (1, .ref v1), (2, .int v2)] [] h := by
  intro n
  induction n with
  | zero => intro v2 h hf; cases hf
  | succ n ih =>
    intro v2 h hf
    rw [f_X0_copyFrom_l18] at hf
    refine z_iload_n 2 dX0_copyFrom_18 rfl rfl ?_
    refine z_iconst (5 : Int32) dX0_copyFrom_19 (by decide) ?_
    refine z_icmp_ge 44 dX0_copyFrom_20 (by decide) hf (fun hf => ?_) (fun hf => ?_)
    · exact Z.sub [0, 1] rfl (hk1 h hf)
    · refine z_aload_n 0 dX0_copyFrom_23 rfl rfl ?_
      refine z_getA dX0_copyFrom_24 zc0 (by decide) wf_X0_17 hf fun x5 hf => ?_
      refine z_iload_n 2 dX0_copyFrom_27 rfl rfl ?_
      refine z_aaload dX0_copyFrom_28 hf fun x6 hf => ?_
      refine z_aload_n 1 dX0_copyFrom_29 rfl rfl ?_
      refine z_getA dX0_copyFrom_30 zc0 (by decide) wf_X0_17 hf fun x7 hf => ?_
      refine z_iload_n 2 dX0_copyFrom_33 rfl rfl ?_
      refine z_aaload dX0_copyFrom_34 hf fun x8 hf => ?_
      refine z_cV_v (d' := d - 1) (As := [.ref x8]) (rest := []) dX0_copyFrom_35 lk_X0_74 rfl hf (fun w1 e1 => zc_X1_copyFrom (by omega) e1) (by omega) rfl rfl (Nat.le_of_ble_eq_true rfl) fun y9 hf => ?_
      refine z_iinc (v2 + (1 : Int32)) 2 [(2, .int (v2 + (1 : Int32))), (0, .ref v0), (1, .ref v1)] dX0_copyFrom_38 rfl rfl (by decide) rfl ?_
      refine z_goto 18 dX0_copyFrom_41 (by decide) ?_
      exact Z.sub [1, 2, 0] rfl (ih (v2 + (1 : Int32)) y9 hf)
set_option maxRecDepth 4000 in
theorem zc_X0_copyFrom {Γ : zG} {N d : Nat} (hd : 13 ≤ d) {a : Nat} {p1 : Nat} {h : zH} {w : zH} (hf : f_X0_copyFrom N a p1 h = some w) : Zm Γ m_X0_copyFrom d [.ref a, .ref p1] h (zoV w) := by
  unfold f_X0_copyFrom at hf
  refine z_meth rfl (plainFor_of_name wpl_X0) (by simp [lg_sl, Value.category, zml, m_X0_copyFrom]) ?_
  refine z_aload_n 0 dX0_copyFrom_0 rfl rfl ?_
  refine z_aload_n 1 dX0_copyFrom_1 rfl rfl ?_
  refine z_getI dX0_copyFrom_2 zc0 (by decide) wf_X0_52 hf fun x1 hf => ?_
  refine z_putB dX0_copyFrom_5 zc0 (by decide) wf_X0_52 (Or.inl rfl) rfl rfl hf fun h2 hf => ?_
  refine z_aload_n 0 dX0_copyFrom_8 rfl rfl ?_
  refine z_aload_n 1 dX0_copyFrom_9 rfl rfl ?_
  refine z_getI dX0_copyFrom_10 zc0 (by decide) wf_X0_56 hf fun x3 hf => ?_
  refine z_putB dX0_copyFrom_13 zc0 (by decide) wf_X0_56 (Or.inl rfl) rfl rfl hf fun h4 hf => ?_
  refine z_iconst (0 : Int32) dX0_copyFrom_16 (by decide) ?_
  refine z_istore_n [(2, .int (0 : Int32)), (0, .ref a), (1, .ref p1)] dX0_copyFrom_17 rfl (by decide) rfl ?_
  refine Z.sub [1, 2, 0] rfl (zl_X0_copyFrom_18 hd (fun h10 hf => ?_) N (0 : Int32) h4 hf)
  · refine z_aload_n 0 dX0_copyFrom_44 rfl rfl ?_
    refine z_getA dX0_copyFrom_45 zc0 (by decide) wf_X0_27 hf fun x11 hf => ?_
    refine z_aload_n 1 dX0_copyFrom_48 rfl rfl ?_
    refine z_getA dX0_copyFrom_49 zc0 (by decide) wf_X0_27 hf fun x12 hf => ?_
    refine z_cV_v (d' := d - 1) (As := [.ref x12]) (rest := []) dX0_copyFrom_52 lk_X0_78 rfl hf (fun w1 e1 => zc_X6_copyFrom (by omega) e1) (by omega) rfl rfl (Nat.le_of_ble_eq_true rfl) fun y13 hf => ?_
    refine z_aload_n 0 dX0_copyFrom_55 rfl rfl ?_
    refine z_getA dX0_copyFrom_56 zc0 (by decide) wf_X0_31 hf fun x14 hf => ?_
    refine z_aload_n 1 dX0_copyFrom_59 rfl rfl ?_
    refine z_getA dX0_copyFrom_60 zc0 (by decide) wf_X0_31 hf fun x15 hf => ?_
    refine z_cV_v (d' := d - 1) (As := [.ref x15]) (rest := []) dX0_copyFrom_63 lk_X0_78 rfl hf (fun w1 e1 => zc_X6_copyFrom (by omega) e1) (by omega) rfl rfl (Nat.le_of_ble_eq_true rfl) fun y16 hf => ?_
    refine z_aload_n 0 dX0_copyFrom_66 rfl rfl ?_
    refine z_getA dX0_copyFrom_67 zc0 (by decide) wf_X0_34 hf fun x17 hf => ?_
    refine z_aload_n 1 dX0_copyFrom_70 rfl rfl ?_
    refine z_getA dX0_copyFrom_71 zc0 (by decide) wf_X0_34 hf fun x18 hf => ?_
    refine z_cV_v (d' := d - 1) (As := [.ref x18]) (rest := []) dX0_copyFrom_74 lk_X0_78 rfl hf (fun w1 e1 => zc_X6_copyFrom (by omega) e1) (by omega) rfl rfl (Nat.le_of_ble_eq_true rfl) fun y19 hf => ?_
    refine z_aload_n 0 dX0_copyFrom_77 rfl rfl ?_
    refine z_getA dX0_copyFrom_78 zc0 (by decide) wf_X0_37 hf fun x20 hf => ?_
    refine z_aload_n 1 dX0_copyFrom_81 rfl rfl ?_
    refine z_getA dX0_copyFrom_82 zc0 (by decide) wf_X0_37 hf fun x21 hf => ?_
    refine z_cV_v (d' := d - 1) (As := [.ref x21]) (rest := []) dX0_copyFrom_85 lk_X0_78 rfl hf (fun w1 e1 => zc_X6_copyFrom (by omega) e1) (by omega) rfl rfl (Nat.le_of_ble_eq_true rfl) fun y22 hf => ?_
    refine z_aload_n 0 dX0_copyFrom_88 rfl rfl ?_
    refine z_aload_n 1 dX0_copyFrom_89 rfl rfl ?_
    refine z_getA dX0_copyFrom_90 zc0 (by decide) wf_X0_49 hf fun x23 hf => ?_
    refine z_putB dX0_copyFrom_93 zc0 (by decide) wf_X0_49 (Or.inl rfl) rfl rfl hf fun h24 hf => ?_
    refine z_aload_n 0 dX0_copyFrom_96 rfl rfl ?_
    refine z_aload_n 1 dX0_copyFrom_97 rfl rfl ?_
    refine z_getI dX0_copyFrom_98 zc0 (by decide) wf_X0_62 hf fun x25 hf => ?_
    refine z_putB dX0_copyFrom_101 zc0 (by decide) wf_X0_62 (Or.inl rfl) rfl rfl hf fun h26 hf => ?_
    refine z_aload_n 0 dX0_copyFrom_104 rfl rfl ?_
    refine z_aload_n 1 dX0_copyFrom_105 rfl rfl ?_
    refine z_getI dX0_copyFrom_106 zc0 (by decide) wf_X0_65 hf fun x27 hf => ?_
    refine z_putB dX0_copyFrom_109 zc0 (by decide) wf_X0_65 (Or.inl rfl) rfl rfl hf fun h28 hf => ?_
    refine z_aload_n 0 dX0_copyFrom_112 rfl rfl ?_
    refine z_aload_n 1 dX0_copyFrom_113 rfl rfl ?_
    refine z_getI dX0_copyFrom_114 zc0 (by decide) wf_X0_81 hf fun x29 hf => ?_
    refine z_putB dX0_copyFrom_117 zc0 (by decide) wf_X0_81 (Or.inl rfl) rfl rfl hf fun h30 hf => ?_
    refine z_aload_n 0 dX0_copyFrom_120 rfl rfl ?_
    refine z_aload_n 1 dX0_copyFrom_121 rfl rfl ?_
    refine z_getI dX0_copyFrom_122 zc0 (by decide) wf_X0_84 hf fun x31 hf => ?_
    refine z_putB dX0_copyFrom_125 zc0 (by decide) wf_X0_84 (Or.inl rfl) rfl rfl hf fun h32 hf => ?_
    refine z_aload_n 0 dX0_copyFrom_128 rfl rfl ?_
    refine z_aload_n 1 dX0_copyFrom_129 rfl rfl ?_
    refine z_getI dX0_copyFrom_130 zc0 (by decide) wf_X0_68 hf fun x33 hf => ?_
    refine z_putB dX0_copyFrom_133 zc0 (by decide) wf_X0_68 (Or.inl rfl) rfl rfl hf fun h34 hf => ?_
    exact z_vret dX0_copyFrom_136 rfl (by cases hf; rfl)
set_option maxRecDepth 4000 in
theorem zc_X4_bringBack {Γ : zG} {N d : Nat} (hd : 14 ≤ d) {a : Nat} {p1 : Nat} {h : zH} {w : zH} (hf : f_X4_bringBack N a p1 h = some w) : Zm Γ m_X4_bringBack d [.ref a, .ref p1] h (zoV w) := by
  unfold f_X4_bringBack at hf
  refine z_meth rfl (plainFor_of_name wpl_X4) (by simp [lg_sl, Value.category, zml, m_X4_bringBack]) ?_
  refine z_aload_n 0 dX4_bringBack_0 rfl rfl ?_
  refine z_getI dX4_bringBack_1 zc4 (by decide) wf_X4_20 hf fun x1 hf => ?_
  refine z_if_le 34 dX4_bringBack_4 (by decide) hf (fun hf => ?_) (fun hf => ?_)
  · exact z_vret dX4_bringBack_34 rfl (by cases hf; rfl)
  · refine z_aload_n 0 dX4_bringBack_7 rfl rfl ?_
    refine z_dup dX4_bringBack_8 rfl ?_
    refine z_getI dX4_bringBack_9 zc4 (by decide) wf_X4_20 hf fun x2 hf => ?_
    refine z_iconst (1 : Int32) dX4_bringBack_12 (by decide) ?_
    refine z_isub dX4_bringBack_13 ?_
    refine z_putB dX4_bringBack_14 zc4 (by decide) wf_X4_20 (Or.inl rfl) rfl rfl hf fun h3 hf => ?_
    refine z_aload_n 1 dX4_bringBack_17 rfl rfl ?_
    refine z_aload_n 0 dX4_bringBack_18 rfl rfl ?_
    refine z_getA dX4_bringBack_19 zc4 (by decide) wf_X4_11 hf fun x4 hf => ?_
    refine z_aload_n 0 dX4_bringBack_22 rfl rfl ?_
    refine z_aload_n 0 dX4_bringBack_23 rfl rfl ?_
    refine z_getI dX4_bringBack_24 zc4 (by decide) wf_X4_20 hf fun x5 hf => ?_
    refine z_cV_i (d' := d - 1) (As := [.int x5]) (rest := [.ref x4, .ref p1]) dX4_bringBack_27 lk_X4_33 rfl hf (fun w1 e1 => zc_X4_placeOf (by omega) e1) (by omega) rfl rfl (Nat.le_of_ble_eq_true rfl) fun y6 hf => ?_
    refine z_aaload dX4_bringBack_30 hf fun x7 hf => ?_
    refine z_cV_v (d' := d - 1) (As := [.ref x7]) (rest := []) dX4_bringBack_31 lk_X4_37 rfl hf (fun w1 e1 => zc_X0_copyFrom (by omega) e1) (by omega) rfl rfl (Nat.le_of_ble_eq_true rfl) fun y8 hf => ?_
    exact z_vret dX4_bringBack_34 rfl (by cases hf; rfl)
set_option maxRecDepth 4000 in
theorem zc_X8_undo {Γ : zG} {N d : Nat} (hd : 15 ≤ d) {a : Nat} {h : zH} {w : Int32 × zH} (hf : f_X8_undo N a h = some w) : Zm Γ m_X8_undo d [.ref a] h (zoI w) := by
  unfold f_X8_undo at hf
  refine z_meth rfl (plainFor_of_name wpl_X8) (by simp [lg_sl, Value.category, zml, m_X8_undo]) ?_
  refine z_aload_n 0 dX8_undo_0 rfl rfl ?_
  refine z_getA dX8_undo_1 zc8 (by decide) wf_X8_35 hf fun x1 hf => ?_
  refine z_cV_i (d' := d - 1) (As := []) (rest := []) dX8_undo_4 lk_X8_228 rfl hf (fun w1 e1 => zc_X4_size (by omega) e1) (by omega) rfl rfl (Nat.le_of_ble_eq_true rfl) fun y2 hf => ?_
  refine z_if_ne 12 dX8_undo_7 (by decide) hf (fun hf => ?_) (fun hf => ?_)
  · refine z_iconst (-1 : Int32) dX8_undo_10 (by decide) ?_
    exact z_iret dX8_undo_11 rfl (by cases hf; rfl)
  · refine z_aload_n 0 dX8_undo_12 rfl rfl ?_
    refine z_getA dX8_undo_13 zc8 (by decide) wf_X8_35 hf fun x3 hf => ?_
    refine z_aload_n 0 dX8_undo_16 rfl rfl ?_
    refine z_getA dX8_undo_17 zc8 (by decide) wf_X8_28 hf fun x4 hf => ?_
    refine z_cV_v (d' := d - 1) (As := [.ref x4]) (rest := []) dX8_undo_20 lk_X8_229 rfl hf (fun w1 e1 => zc_X4_bringBack (by omega) e1) (by omega) rfl rfl (Nat.le_of_ble_eq_true rfl) fun y5 hf => ?_
    refine z_aload_n 0 dX8_undo_23 rfl rfl ?_
    refine z_getA dX8_undo_24 zc8 (by decide) wf_X8_35 hf fun x6 hf => ?_
    refine z_cV_i (d' := d - 1) (As := []) (rest := []) dX8_undo_27 lk_X8_228 rfl hf (fun w1 e1 => zc_X4_size (by omega) e1) (by omega) rfl rfl (Nat.le_of_ble_eq_true rfl) fun y7 hf => ?_
    exact z_iret dX8_undo_30 rfl (by cases hf; rfl)
set_option maxRecDepth 4000 in
theorem zc_X8_bidderInTurn {Γ : zG} {N d : Nat} (hd : 12 ≤ d) {a : Nat} {h : zH} {w : (Nat ⊕ Nat) × zH} (hf : f_X8_bidderInTurn N a h = some w) : Zm Γ m_X8_bidderInTurn d [.ref a] h (zoTA w) := by
  unfold f_X8_bidderInTurn at hf
  refine z_meth rfl (plainFor_of_name wpl_X8) (by simp [lg_sl, Value.category, zml, m_X8_bidderInTurn]) ?_
  refine z_aload_n 0 dX8_bidderInTurn_0 rfl rfl ?_
  refine z_getA dX8_bidderInTurn_1 zc8 (by decide) wf_X8_28 hf fun x1 hf => ?_
  refine z_cV_i (d' := d - 1) (As := []) (rest := []) dX8_bidderInTurn_4 lk_X8_98 rfl hf (fun w1 e1 => zc_X0_isOver (by omega) e1) (by omega) rfl rfl (Nat.le_of_ble_eq_true rfl) fun y2 hf => ?_
  refine z_if_eq 14 dX8_bidderInTurn_7 (by decide) hf (fun hf => ?_) (fun hf => ?_)
  · refine z_aload_n 0 dX8_bidderInTurn_14 rfl rfl ?_
    refine z_getA dX8_bidderInTurn_15 zc8 (by decide) wf_X8_28 hf fun x3 hf => ?_
    refine z_aload_n 0 dX8_bidderInTurn_18 rfl rfl ?_
    refine z_getA dX8_bidderInTurn_19 zc8 (by decide) wf_X8_28 hf fun x4 hf => ?_
    refine z_getI dX8_bidderInTurn_22 zc0 (by decide) wf_X8_104 hf fun x5 hf => ?_
    refine z_cV_n (d' := d - 1) (As := [.int x5]) (rest := []) dX8_bidderInTurn_25 lk_X8_254 rfl hf (fun w1 e1 => zc_X0_bidder (by omega) e1) (by omega) rfl rfl (Nat.le_of_ble_eq_true rfl) (fun y6 hf => ?_) (fun y6 x7 hf => ?_)
    · refine z_astore_nN [(1, .null), (0, .ref a)] dX8_bidderInTurn_28 rfl (by decide) rfl ?_
      refine z_aload_nN 0 dX8_bidderInTurn_29 rfl rfl ?_
      refine z_ifnonnullN dX8_bidderInTurn_30 ?_
      exact z_throw 0 (by decide) dX8_bidderInTurn_33 dX8_bidderInTurn_36 dX8_bidderInTurn_37 dX8_bidderInTurn_40 wc_X8_212 wi_x0 wx_X8_214a wx_X8_214b (by omega) rfl (Nat.le_of_ble_eq_true rfl) (by cases hf; rfl)
    · refine z_astore_n [(1, .ref x7), (0, .ref a)] dX8_bidderInTurn_28 rfl (by decide) rfl ?_
      refine z_aload_n 0 dX8_bidderInTurn_29 rfl rfl ?_
      refine z_ifnonnull 41 dX8_bidderInTurn_30 (by decide) ?_
      refine z_aload_n 0 dX8_bidderInTurn_41 rfl rfl ?_
      exact z_aret dX8_bidderInTurn_42 rfl (Or.inl ⟨_, rfl⟩) (Or.inr ⟨_, rfl⟩) (by cases hf; rfl)
  · refine z_null dX8_bidderInTurn_10 ?_
    refine z_goto 28 dX8_bidderInTurn_11 (by decide) ?_
    refine z_astore_nN [(1, .null), (0, .ref a)] dX8_bidderInTurn_28 rfl (by decide) rfl ?_
    refine z_aload_nN 0 dX8_bidderInTurn_29 rfl rfl ?_
    refine z_ifnonnullN dX8_bidderInTurn_30 ?_
    exact z_throw 0 (by decide) dX8_bidderInTurn_33 dX8_bidderInTurn_36 dX8_bidderInTurn_37 dX8_bidderInTurn_40 wc_X8_212 wi_x0 wx_X8_214a wx_X8_214b (by omega) rfl (Nat.le_of_ble_eq_true rfl) (by cases hf; rfl)
set_option maxRecDepth 4000 in
theorem zj_X4_remember_24 {Γ : zG} {N d : Nat} {h0 : zH} (hd : 14 ≤ d) {v0 : Nat} {v1 : Nat}  {h : zH} {w : zH} (hf : f_X4_remember_j24 N v0 v1  h = some w) : Z Γ m_X4_remember d h0 (zoV w) 24 [(0, .ref v0), (1, .ref v1)] [] h := by
  unfold f_X4_remember_j24 at hf
  refine z_aload_n 0 dX4_remember_24 rfl rfl ?_
  refine z_getA dX4_remember_25 zc4 (by decide) wf_X4_11 hf fun x2 hf => ?_
  refine z_aload_n 0 dX4_remember_28 rfl rfl ?_
  refine z_aload_n 0 dX4_remember_29 rfl rfl ?_
  refine z_getI dX4_remember_30 zc4 (by decide) wf_X4_20 hf fun x3 hf => ?_
  refine z_cV_i (d' := d - 1) (As := [.int x3]) (rest := [.ref x2]) dX4_remember_33 lk_X4_33 rfl hf (fun w1 e1 => zc_X4_placeOf (by omega) e1) (by omega) rfl rfl (Nat.le_of_ble_eq_true rfl) fun y4 hf => ?_
  refine z_aaload dX4_remember_36 hf fun x5 hf => ?_
  refine z_aload_n 1 dX4_remember_37 rfl rfl ?_
  refine z_cV_v (d' := d - 1) (As := [.ref v1]) (rest := []) dX4_remember_38 lk_X4_37 rfl hf (fun w1 e1 => zc_X0_copyFrom (by omega) e1) (by omega) rfl rfl (Nat.le_of_ble_eq_true rfl) fun y6 hf => ?_
  refine z_aload_n 0 dX4_remember_41 rfl rfl ?_
  refine z_dup dX4_remember_42 rfl ?_
  refine z_getI dX4_remember_43 zc4 (by decide) wf_X4_20 hf fun x7 hf => ?_
  refine z_iconst (1 : Int32) dX4_remember_46 (by decide) ?_
  refine z_iadd dX4_remember_47 ?_
  refine z_putB dX4_remember_48 zc4 (by decide) wf_X4_20 (Or.inl rfl) rfl rfl hf fun h8 hf => ?_
  exact z_vret dX4_remember_51 rfl (by cases hf; rfl)
set_option maxRecDepth 4000 in
theorem zc_X4_remember {Γ : zG} {N d : Nat} (hd : 14 ≤ d) {a : Nat} {p1 : Nat} {h : zH} {w : zH} (hf : f_X4_remember N a p1 h = some w) : Zm Γ m_X4_remember d [.ref a, .ref p1] h (zoV w) := by
  unfold f_X4_remember at hf
  refine z_meth rfl (plainFor_of_name wpl_X4) (by simp [lg_sl, Value.category, zml, m_X4_remember]) ?_
  refine z_aload_n 0 dX4_remember_0 rfl rfl ?_
  refine z_getI dX4_remember_1 zc4 (by decide) wf_X4_20 hf fun x1 hf => ?_
  refine z_bipush (8 : Int32) dX4_remember_4 (by decide) ?_
  refine z_icmp_lt 24 dX4_remember_6 (by decide) hf (fun hf => ?_) (fun hf => ?_)
  · exact Z.sub [0, 1] rfl (zj_X4_remember_24 hd hf)
  · refine z_aload_n 0 dX4_remember_9 rfl rfl ?_
    refine z_aload_n 0 dX4_remember_10 rfl rfl ?_
    refine z_iconst (1 : Int32) dX4_remember_11 (by decide) ?_
    refine z_cV_i (d' := d - 1) (As := [.int (1 : Int32)]) (rest := [.ref a]) dX4_remember_12 lk_X4_33 rfl hf (fun w1 e1 => zc_X4_placeOf (by omega) e1) (by omega) rfl rfl (Nat.le_of_ble_eq_true rfl) fun y9 hf => ?_
    refine z_putB dX4_remember_15 zc4 (by decide) wf_X4_24 (Or.inl rfl) rfl rfl hf fun h10 hf => ?_
    refine z_aload_n 0 dX4_remember_18 rfl rfl ?_
    refine z_bipush (7 : Int32) dX4_remember_19 (by decide) ?_
    refine z_putB dX4_remember_21 zc4 (by decide) wf_X4_20 (Or.inl rfl) rfl rfl hf fun h11 hf => ?_
    exact Z.sub [0, 1] rfl (zj_X4_remember_24 hd hf)
set_option maxRecDepth 4000 in
theorem zc_X6_isFull {Γ : zG} {N d : Nat} (hd : 10 ≤ d) {a : Nat} {h : zH} {w : Int32 × zH} (hf : f_X6_isFull N a h = some w) : Zm Γ m_X6_isFull d [.ref a] h (zoI w) := by
  unfold f_X6_isFull at hf
  refine z_meth rfl (plainFor_of_name wpl_X6) (by simp [lg_sl, Value.category, zml, m_X6_isFull]) ?_
  refine z_aload_n 0 dX6_isFull_0 rfl rfl ?_
  refine z_getI dX6_isFull_1 zc6 (by decide) wf_X6_19 hf fun x1 hf => ?_
  refine z_aload_n 0 dX6_isFull_4 rfl rfl ?_
  refine z_getA dX6_isFull_5 zc6 (by decide) wf_X6_13 hf fun x2 hf => ?_
  refine z_alen dX6_isFull_8 hf fun x3 hf => ?_
  refine z_icmp_lt 16 dX6_isFull_9 (by decide) hf (fun hf => ?_) (fun hf => ?_)
  · refine z_iconst (0 : Int32) dX6_isFull_16 (by decide) ?_
    exact z_zret dX6_isFull_17 rfl (Or.inl rfl) (by cases hf; rfl)
  · refine z_iconst (1 : Int32) dX6_isFull_12 (by decide) ?_
    refine z_goto 17 dX6_isFull_13 (by decide) ?_
    exact z_zret dX6_isFull_17 rfl (Or.inr rfl) (by cases hf; rfl)
set_option maxRecDepth 4000 in
theorem zc_X6_push {Γ : zG} {N d : Nat} (hd : 10 ≤ d) {a : Nat} {p1 : Int32} {h : zH} {w : zH} (hf : f_X6_push N a p1 h = some w) : Zm Γ m_X6_push d [.ref a, .int p1] h (zoV w) := by
  unfold f_X6_push at hf
  refine z_meth rfl (plainFor_of_name wpl_X6) (by simp [lg_sl, Value.category, zml, m_X6_push]) ?_
  refine z_aload_n 0 dX6_push_0 rfl rfl ?_
  refine z_getI dX6_push_1 zc6 (by decide) wf_X6_19 hf fun x1 hf => ?_
  refine z_if_lt 39 dX6_push_4 (by decide) hf (fun hf => ?_) (fun hf => ?_)
  · exact z_vret dX6_push_39 rfl (by cases hf; rfl)
  · refine z_aload_n 0 dX6_push_7 rfl rfl ?_
    refine z_getI dX6_push_8 zc6 (by decide) wf_X6_19 hf fun x2 hf => ?_
    refine z_aload_n 0 dX6_push_11 rfl rfl ?_
    refine z_getA dX6_push_12 zc6 (by decide) wf_X6_13 hf fun x3 hf => ?_
    refine z_alen dX6_push_15 hf fun x4 hf => ?_
    refine z_icmp_ge 39 dX6_push_16 (by decide) hf (fun hf => ?_) (fun hf => ?_)
    · exact z_vret dX6_push_39 rfl (by cases hf; rfl)
    · refine z_aload_n 0 dX6_push_19 rfl rfl ?_
      refine z_getA dX6_push_20 zc6 (by decide) wf_X6_13 hf fun x5 hf => ?_
      refine z_aload_n 0 dX6_push_23 rfl rfl ?_
      refine z_getI dX6_push_24 zc6 (by decide) wf_X6_19 hf fun x6 hf => ?_
      refine z_iload_n 1 dX6_push_27 rfl rfl ?_
      refine z_iastore dX6_push_28 hf fun h7 hf => ?_
      refine z_aload_n 0 dX6_push_29 rfl rfl ?_
      refine z_dup dX6_push_30 rfl ?_
      refine z_getI dX6_push_31 zc6 (by decide) wf_X6_19 hf fun x8 hf => ?_
      refine z_iconst (1 : Int32) dX6_push_34 (by decide) ?_
      refine z_iadd dX6_push_35 ?_
      refine z_putB dX6_push_36 zc6 (by decide) wf_X6_19 (Or.inl rfl) rfl rfl hf fun h9 hf => ?_
      exact z_vret dX6_push_39 rfl (by cases hf; rfl)
set_option maxRecDepth 4000 in
theorem zl_X6_remove_13 {Γ : zG} {N d : Nat} {h0 : zH} (hd : 11 ≤ d) {v0 : Nat} {k1 : zH → Option (zH)} {w : zH}  (hk1 : ∀ (h : zH), k1 h = some w → Z Γ m_X6_remove d h0 (zoV w) 50 [(0, .ref v0)] [] h) : ∀ (n : Nat) (v2 : Int32) (h : zH), f_X6_remove_l13 N v0 k1 n v2 h = some w → Z Γ m_X6_remove d h0 (zoV w) 13 [(0, .ref v0), (2, .int v2)] [] h := by
  intro n
  induction n with
  | zero => intro v2 h hf; cases hf
  | succ n ih =>
    intro v2 h hf
    rw [f_X6_remove_l13] at hf
    refine z_iload_n 1 dX6_remove_13 rfl rfl ?_
    refine z_aload_n 0 dX6_remove_14 rfl rfl ?_
    refine z_getI dX6_remove_15 zc6 (by decide) wf_X6_19 hf fun x2 hf => ?_
    refine z_icmp_ge 50 dX6_remove_18 (by decide) hf (fun hf => ?_) (fun hf => ?_)
    · exact Z.sub [0] rfl (hk1 h hf)
    · refine z_iload_n 1 dX6_remove_21 rfl rfl ?_
      refine z_aload_n 0 dX6_remove_22 rfl rfl ?_
      refine z_getA dX6_remove_23 zc6 (by decide) wf_X6_13 hf fun x3 hf => ?_
      refine z_alen dX6_remove_26 hf fun x4 hf => ?_
      refine z_icmp_ge 50 dX6_remove_27 (by decide) hf (fun hf => ?_) (fun hf => ?_)
      · exact Z.sub [0] rfl (hk1 h hf)
      · refine z_aload_n 0 dX6_remove_30 rfl rfl ?_
        refine z_getA dX6_remove_31 zc6 (by decide) wf_X6_13 hf fun x5 hf => ?_
        refine z_iload_n 1 dX6_remove_34 rfl rfl ?_
        refine z_iconst (1 : Int32) dX6_remove_35 (by decide) ?_
        refine z_isub dX6_remove_36 ?_
        refine z_aload_n 0 dX6_remove_37 rfl rfl ?_
        refine z_getA dX6_remove_38 zc6 (by decide) wf_X6_13 hf fun x6 hf => ?_
        refine z_iload_n 1 dX6_remove_41 rfl rfl ?_
        refine z_iaload dX6_remove_42 hf fun x7 hf => ?_
        refine z_iastore dX6_remove_43 hf fun h8 hf => ?_
        refine z_iinc (v2 + (1 : Int32)) 1 [(2, .int (v2 + (1 : Int32))), (0, .ref v0)] dX6_remove_44 rfl rfl (by decide) rfl ?_
        refine z_goto 13 dX6_remove_47 (by decide) ?_
        exact Z.sub [1, 0] rfl (ih (v2 + (1 : Int32)) h8 hf)
set_option maxRecDepth 4000 in
theorem zc_X6_remove {Γ : zG} {N d : Nat} (hd : 11 ≤ d) {a : Nat} {p1 : Int32} {h : zH} {w : zH} (hf : f_X6_remove N a p1 h = some w) : Zm Γ m_X6_remove d [.ref a, .int p1] h (zoV w) := by
  unfold f_X6_remove at hf
  refine z_meth rfl (plainFor_of_name wpl_X6) (by simp [lg_sl, Value.category, zml, m_X6_remove]) ?_
  refine z_aload_n 0 dX6_remove_0 rfl rfl ?_
  refine z_iload_n 1 dX6_remove_1 rfl rfl ?_
  refine z_cV_i (d' := d - 1) (As := [.int p1]) (rest := []) dX6_remove_2 lk_X6_23 rfl hf (fun w1 e1 => zc_X6_holds (by omega) e1) (by omega) rfl rfl (Nat.le_of_ble_eq_true rfl) fun y1 hf => ?_
  refine z_if_ne 9 dX6_remove_5 (by decide) hf (fun hf => ?_) (fun hf => ?_)
  · exact z_vret dX6_remove_8 rfl (by cases hf; rfl)
  · refine z_iload_n 1 dX6_remove_9 rfl rfl ?_
    refine z_iconst (1 : Int32) dX6_remove_10 (by decide) ?_
    refine z_iadd dX6_remove_11 ?_
    refine z_istore_n [(2, .int (p1 + (1 : Int32))), (0, .ref a), (1, .int p1)] dX6_remove_12 rfl (by decide) rfl ?_
    refine Z.sub [1, 0] rfl (zl_X6_remove_13 hd (fun h9 hf => ?_) N (p1 + (1 : Int32)) y1.2 hf)
    · refine z_aload_n 0 dX6_remove_50 rfl rfl ?_
      refine z_dup dX6_remove_51 rfl ?_
      refine z_getI dX6_remove_52 zc6 (by decide) wf_X6_19 hf fun x10 hf => ?_
      refine z_iconst (1 : Int32) dX6_remove_55 (by decide) ?_
      refine z_isub dX6_remove_56 ?_
      refine z_putB dX6_remove_57 zc6 (by decide) wf_X6_19 (Or.inl rfl) rfl rfl hf fun h11 hf => ?_
      exact z_vret dX6_remove_60 rfl (by cases hf; rfl)
set_option maxRecDepth 4000 in
theorem zc_X1_dropCard {Γ : zG} {N d : Nat} (hd : 12 ≤ d) {a : Nat} {p1 : Int32} {h : zH} {w : zH} (hf : f_X1_dropCard N a p1 h = some w) : Zm Γ m_X1_dropCard d [.ref a, .int p1] h (zoV w) := by
  unfold f_X1_dropCard at hf
  refine z_meth rfl (plainFor_of_name wpl_X1) (by simp [lg_sl, Value.category, zml, m_X1_dropCard]) ?_
  refine z_aload_n 0 dX1_dropCard_0 rfl rfl ?_
  refine z_getA dX1_dropCard_1 zc1 (by decide) wf_X1_14 hf fun x1 hf => ?_
  refine z_iload_n 1 dX1_dropCard_4 rfl rfl ?_
  refine z_cV_v (d' := d - 1) (As := [.int p1]) (rest := []) dX1_dropCard_5 lk_X1_40 rfl hf (fun w1 e1 => zc_X6_remove (by omega) e1) (by omega) rfl rfl (Nat.le_of_ble_eq_true rfl) fun y2 hf => ?_
  refine z_aload_n 0 dX1_dropCard_8 rfl rfl ?_
  refine z_getA dX1_dropCard_9 zc1 (by decide) wf_X1_20 hf fun x3 hf => ?_
  refine z_iload_n 1 dX1_dropCard_12 rfl rfl ?_
  refine z_cV_v (d' := d - 1) (As := [.int p1]) (rest := []) dX1_dropCard_13 lk_X1_40 rfl hf (fun w1 e1 => zc_X6_remove (by omega) e1) (by omega) rfl rfl (Nat.le_of_ble_eq_true rfl) fun y4 hf => ?_
  exact z_vret dX1_dropCard_16 rfl (by cases hf; rfl)
set_option maxRecDepth 4000 in
theorem zc_X1_receive {Γ : zG} {N d : Nat} (hd : 11 ≤ d) {a : Nat} {p1 : Int32} {h : zH} {w : zH} (hf : f_X1_receive N a p1 h = some w) : Zm Γ m_X1_receive d [.ref a, .int p1] h (zoV w) := by
  unfold f_X1_receive at hf
  refine z_meth rfl (plainFor_of_name wpl_X1) (by simp [lg_sl, Value.category, zml, m_X1_receive]) ?_
  refine z_aload_n 0 dX1_receive_0 rfl rfl ?_
  refine z_iconst (0 : Int32) dX1_receive_1 (by decide) ?_
  refine z_ldc (999999 : Int32) dX1_receive_2 wk_X1_43 ?_
  refine z_aload_n 0 dX1_receive_4 rfl rfl ?_
  refine z_getI dX1_receive_5 zc1 (by decide) wf_X1_23 hf fun x1 hf => ?_
  refine z_iload_n 1 dX1_receive_8 rfl rfl ?_
  refine z_iadd dX1_receive_9 ?_
  refine z_cS_i (d' := d - 1) (As := [.int (999999 : Int32), .int (x1 + p1)]) (rest := [.int (0 : Int32), .ref a]) dX1_receive_10 lk_X1_44 hf (fun w1 e1 => zc_J9_min_7cf53 (by omega) e1) (by omega) rfl rfl (Nat.le_of_ble_eq_true rfl) fun y2 hf => ?_
  refine z_cS_i (d' := d - 1) (As := [.int (0 : Int32), .int y2.1]) (rest := [.ref a]) dX1_receive_13 lk_X1_50 hf (fun w1 e1 => zc_J9_max_7cf53 (by omega) e1) (by omega) rfl rfl (Nat.le_of_ble_eq_true rfl) fun y3 hf => ?_
  refine z_putB dX1_receive_16 zc1 (by decide) wf_X1_23 (Or.inl rfl) rfl rfl hf fun h4 hf => ?_
  exact z_vret dX1_receive_19 rfl (by cases hf; rfl)
set_option maxRecDepth 4000 in
theorem zc_X6_clear {Γ : zG} {N d : Nat} (hd : 10 ≤ d) {a : Nat} {h : zH} {w : zH} (hf : f_X6_clear N a h = some w) : Zm Γ m_X6_clear d [.ref a] h (zoV w) := by
  unfold f_X6_clear at hf
  refine z_meth rfl (plainFor_of_name wpl_X6) (by simp [lg_sl, Value.category, zml, m_X6_clear]) ?_
  refine z_aload_n 0 dX6_clear_0 rfl rfl ?_
  refine z_iconst (0 : Int32) dX6_clear_1 (by decide) ?_
  refine z_putB dX6_clear_2 zc6 (by decide) wf_X6_19 (Or.inl rfl) rfl rfl hf fun h1 hf => ?_
  exact z_vret dX6_clear_5 rfl (by cases hf; rfl)
set_option maxRecDepth 4000 in
theorem zc_X0_clearLot {Γ : zG} {N d : Nat} (hd : 11 ≤ d) {a : Nat} {h : zH} {w : zH} (hf : f_X0_clearLot N a h = some w) : Zm Γ m_X0_clearLot d [.ref a] h (zoV w) := by
  unfold f_X0_clearLot at hf
  refine z_meth rfl (plainFor_of_name wpl_X0) (by simp [lg_sl, Value.category, zml, m_X0_clearLot]) ?_
  refine z_aload_n 0 dX0_clearLot_0 rfl rfl ?_
  refine z_getA dX0_clearLot_1 zc0 (by decide) wf_X0_31 hf fun x1 hf => ?_
  refine z_cV_v (d' := d - 1) (As := []) (rest := []) dX0_clearLot_4 lk_X0_59 rfl hf (fun w1 e1 => zc_X6_clear (by omega) e1) (by omega) rfl rfl (Nat.le_of_ble_eq_true rfl) fun y2 hf => ?_
  refine z_aload_n 0 dX0_clearLot_7 rfl rfl ?_
  refine z_getA dX0_clearLot_8 zc0 (by decide) wf_X0_34 hf fun x3 hf => ?_
  refine z_cV_v (d' := d - 1) (As := []) (rest := []) dX0_clearLot_11 lk_X0_59 rfl hf (fun w1 e1 => zc_X6_clear (by omega) e1) (by omega) rfl rfl (Nat.le_of_ble_eq_true rfl) fun y4 hf => ?_
  refine z_aload_n 0 dX0_clearLot_14 rfl rfl ?_
  refine z_getA dX0_clearLot_15 zc0 (by decide) wf_X0_37 hf fun x5 hf => ?_
  refine z_cV_v (d' := d - 1) (As := []) (rest := []) dX0_clearLot_18 lk_X0_59 rfl hf (fun w1 e1 => zc_X6_clear (by omega) e1) (by omega) rfl rfl (Nat.le_of_ble_eq_true rfl) fun y6 hf => ?_
  refine z_aload_n 0 dX0_clearLot_21 rfl rfl ?_
  refine z_iconst (0 : Int32) dX0_clearLot_22 (by decide) ?_
  refine z_putB dX0_clearLot_23 zc0 (by decide) wf_X0_81 (Or.inl rfl) rfl rfl hf fun h7 hf => ?_
  refine z_aload_n 0 dX0_clearLot_26 rfl rfl ?_
  refine z_iconst (0 : Int32) dX0_clearLot_27 (by decide) ?_
  refine z_putB dX0_clearLot_28 zc0 (by decide) wf_X0_84 (Or.inl rfl) rfl rfl hf fun h8 hf => ?_
  exact z_vret dX0_clearLot_31 rfl (by cases hf; rfl)
set_option maxRecDepth 4000 in
theorem zc_X0_openNextLot {Γ : zG} {N d : Nat} (hd : 12 ≤ d) {a : Nat} {h : zH} {w : zH} (hf : f_X0_openNextLot N a h = some w) : Zm Γ m_X0_openNextLot d [.ref a] h (zoV w) := by
  unfold f_X0_openNextLot at hf
  refine z_meth rfl (plainFor_of_name wpl_X0) (by simp [lg_sl, Value.category, zml, m_X0_openNextLot]) ?_
  refine z_aload_n 0 dX0_openNextLot_0 rfl rfl ?_
  refine z_dup dX0_openNextLot_1 rfl ?_
  refine z_getI dX0_openNextLot_2 zc0 (by decide) wf_X0_62 hf fun x1 hf => ?_
  refine z_iconst (1 : Int32) dX0_openNextLot_5 (by decide) ?_
  refine z_iadd dX0_openNextLot_6 ?_
  refine z_putB dX0_openNextLot_7 zc0 (by decide) wf_X0_62 (Or.inl rfl) rfl rfl hf fun h2 hf => ?_
  refine z_aload_n 0 dX0_openNextLot_10 rfl rfl ?_
  refine z_cV_v (d' := d - 1) (As := []) (rest := []) dX0_openNextLot_11 lk_X0_71 rfl hf (fun w1 e1 => zc_X0_clearLot (by omega) e1) (by omega) rfl rfl (Nat.le_of_ble_eq_true rfl) fun y3 hf => ?_
  exact z_vret dX0_openNextLot_14 rfl (by cases hf; rfl)
set_option maxRecDepth 4000 in
theorem zc_X0_turnToNext {Γ : zG} {N d : Nat} (hd : 10 ≤ d) {a : Nat} {h : zH} {w : zH} (hf : f_X0_turnToNext N a h = some w) : Zm Γ m_X0_turnToNext d [.ref a] h (zoV w) := by
  unfold f_X0_turnToNext at hf
  refine z_meth rfl (plainFor_of_name wpl_X0) (by simp [lg_sl, Value.category, zml, m_X0_turnToNext]) ?_
  refine z_aload_n 0 dX0_turnToNext_0 rfl rfl ?_
  refine z_aload_n 0 dX0_turnToNext_1 rfl rfl ?_
  refine z_getI dX0_turnToNext_2 zc0 (by decide) wf_X0_65 hf fun x1 hf => ?_
  refine z_iconst (1 : Int32) dX0_turnToNext_5 (by decide) ?_
  refine z_iadd dX0_turnToNext_6 ?_
  refine z_aload_n 0 dX0_turnToNext_7 rfl rfl ?_
  refine z_getI dX0_turnToNext_8 zc0 (by decide) wf_X0_56 hf fun x2 hf => ?_
  refine z_icmp_ge 23 dX0_turnToNext_11 (by decide) hf (fun hf => ?_) (fun hf => ?_)
  · refine z_iconst (0 : Int32) dX0_turnToNext_23 (by decide) ?_
    refine z_putB dX0_turnToNext_24 zc0 (by decide) wf_X0_65 (Or.inl rfl) rfl rfl hf fun h3 hf => ?_
    exact z_vret dX0_turnToNext_27 rfl (by cases hf; rfl)
  · refine z_aload_n 0 dX0_turnToNext_14 rfl rfl ?_
    refine z_getI dX0_turnToNext_15 zc0 (by decide) wf_X0_65 hf fun x4 hf => ?_
    refine z_iconst (1 : Int32) dX0_turnToNext_18 (by decide) ?_
    refine z_iadd dX0_turnToNext_19 ?_
    refine z_goto 24 dX0_turnToNext_20 (by decide) ?_
    refine z_putB dX0_turnToNext_24 zc0 (by decide) wf_X0_65 (Or.inl rfl) rfl rfl hf fun h5 hf => ?_
    exact z_vret dX0_turnToNext_27 rfl (by cases hf; rfl)
set_option maxRecDepth 4000 in
theorem zj_X0_endMove_70 {Γ : zG} {N d : Nat} {h0 : zH} (hd : 13 ≤ d) {v0 : Nat} {v3 : Int32}  {h : zH} {w : Int32 × zH} (hf : f_X0_endMove_j70 N v0 v3  h = some w) : Z Γ m_X0_endMove d h0 (zoI w) 70 [(0, .ref v0), (3, .int v3)] [] h := by
  unfold f_X0_endMove_j70 at hf
  refine z_aload_n 0 dX0_endMove_70 rfl rfl ?_
  refine z_cV_v (d' := d - 1) (As := []) (rest := []) dX0_endMove_71 lk_X0_161 rfl hf (fun w1 e1 => zc_X0_turnToNext (by omega) e1) (by omega) rfl rfl (Nat.le_of_ble_eq_true rfl) fun y4 hf => ?_
  refine z_iload_n 1 dX0_endMove_74 rfl rfl ?_
  refine z_if_eq 82 dX0_endMove_75 (by decide) hf (fun hf => ?_) (fun hf => ?_)
  · refine z_iconst (0 : Int32) dX0_endMove_82 (by decide) ?_
    exact z_iret dX0_endMove_83 rfl (by cases hf; rfl)
  · refine z_iconst (1 : Int32) dX0_endMove_78 (by decide) ?_
    refine z_goto 83 dX0_endMove_79 (by decide) ?_
    exact z_iret dX0_endMove_83 rfl (by cases hf; rfl)
set_option maxRecDepth 4000 in
theorem zj_X0_endMove_31 {Γ : zG} {N d : Nat} {h0 : zH} (hd : 13 ≤ d) {v0 : Nat} {v1 : Nat} {s0 : Int32} {h : zH} {w : Int32 × zH} (hf : f_X0_endMove_j31 N v0 v1 s0 h = some w) : Z Γ m_X0_endMove d h0 (zoI w) 31 [(0, .ref v0), (1, .ref v1)] [.int s0] h := by
  unfold f_X0_endMove_j31 at hf
  refine z_istore_n [(3, .int s0), (0, .ref v0), (1, .ref v1)] dX0_endMove_31 rfl (by decide) rfl ?_
  refine z_iload_n 0 dX0_endMove_32 rfl rfl ?_
  refine z_if_eq 70 dX0_endMove_33 (by decide) hf (fun hf => ?_) (fun hf => ?_)
  · exact Z.sub [1, 0] rfl (zj_X0_endMove_70 hd hf)
  · refine z_aload_n 2 dX0_endMove_36 rfl rfl ?_
    refine z_aload_n 1 dX0_endMove_37 rfl rfl ?_
    refine z_getA dX0_endMove_38 zc0 (by decide) wf_X0_27 hf fun x5 hf => ?_
    refine z_aload_n 1 dX0_endMove_41 rfl rfl ?_
    refine z_getI dX0_endMove_42 zc0 (by decide) wf_X0_62 hf fun x6 hf => ?_
    refine z_cV_i (d' := d - 1) (As := [.int x6]) (rest := [.ref v1]) dX0_endMove_45 lk_X0_94 rfl hf (fun w1 e1 => zc_X6_at (by omega) e1) (by omega) rfl rfl (Nat.le_of_ble_eq_true rfl) fun y7 hf => ?_
    refine z_aload_n 1 dX0_endMove_48 rfl rfl ?_
    refine z_getI dX0_endMove_49 zc0 (by decide) wf_X0_81 hf fun x8 hf => ?_
    refine z_iadd dX0_endMove_52 ?_
    refine z_cV_v (d' := d - 1) (As := [.int (y7.1 + x8)]) (rest := []) dX0_endMove_53 lk_X0_152 rfl hf (fun w1 e1 => zc_X1_receive (by omega) e1) (by omega) rfl rfl (Nat.le_of_ble_eq_true rfl) fun y9 hf => ?_
    refine z_aload_n 2 dX0_endMove_56 rfl rfl ?_
    refine z_dup dX0_endMove_57 rfl ?_
    refine z_getI dX0_endMove_58 zc1 (by decide) wf_X0_164 hf fun x10 hf => ?_
    refine z_iconst (1 : Int32) dX0_endMove_61 (by decide) ?_
    refine z_iadd dX0_endMove_62 ?_
    refine z_putB dX0_endMove_63 zc1 (by decide) wf_X0_164 (Or.inl rfl) rfl rfl hf fun h11 hf => ?_
    refine z_aload_n 1 dX0_endMove_66 rfl rfl ?_
    refine z_cV_v (d' := d - 1) (As := []) (rest := []) dX0_endMove_67 lk_X0_158 rfl hf (fun w1 e1 => zc_X0_openNextLot (by omega) e1) (by omega) rfl rfl (Nat.le_of_ble_eq_true rfl) fun y12 hf => ?_
    exact Z.sub [1, 0] rfl (zj_X0_endMove_70 hd hf)
set_option maxRecDepth 4000 in
theorem zj_X0_endMove_30 {Γ : zG} {N d : Nat} {h0 : zH} (hd : 13 ≤ d) {v0 : Nat} {v1 : Nat}  {h : zH} {w : Int32 × zH} (hf : f_X0_endMove_j30 N v0 v1  h = some w) : Z Γ m_X0_endMove d h0 (zoI w) 30 [(0, .ref v0), (1, .ref v1)] [] h := by
  unfold f_X0_endMove_j30 at hf
  refine z_iconst (0 : Int32) dX0_endMove_30 (by decide) ?_
  exact Z.sub [0, 1] rfl (zj_X0_endMove_31 hd hf)
set_option maxRecDepth 4000 in
theorem zc_X0_endMove {Γ : zG} {N d : Nat} (hd : 13 ≤ d) {a : Nat} {p1 : Nat} {h : zH} {w : Int32 × zH} (hf : f_X0_endMove N a p1 h = some w) : Zm Γ m_X0_endMove d [.ref a, .ref p1] h (zoI w) := by
  unfold f_X0_endMove at hf
  refine z_meth rfl (plainFor_of_name wpl_X0) (by simp [lg_sl, Value.category, zml, m_X0_endMove]) ?_
  refine z_aload_n 0 dX0_endMove_0 rfl rfl ?_
  refine z_iconst (0 : Int32) dX0_endMove_1 (by decide) ?_
  refine z_putB dX0_endMove_2 zc0 (by decide) wf_X0_84 (Or.inl rfl) rfl rfl hf fun h1 hf => ?_
  refine z_aload_n 0 dX0_endMove_5 rfl rfl ?_
  refine z_getA dX0_endMove_6 zc0 (by decide) wf_X0_34 hf fun x2 hf => ?_
  refine z_cV_i (d' := d - 1) (As := []) (rest := []) dX0_endMove_9 lk_X0_104 rfl hf (fun w1 e1 => zc_X6_size (by omega) e1) (by omega) rfl rfl (Nat.le_of_ble_eq_true rfl) fun y3 hf => ?_
  refine z_istore_n [(2, .int y3.1), (0, .ref a), (1, .ref p1)] dX0_endMove_12 rfl (by decide) rfl ?_
  refine z_iload_n 0 dX0_endMove_13 rfl rfl ?_
  refine z_if_le 30 dX0_endMove_14 (by decide) hf (fun hf => ?_) (fun hf => ?_)
  · exact Z.sub [1, 2] rfl (zj_X0_endMove_30 hd hf)
  · refine z_aload_n 1 dX0_endMove_17 rfl rfl ?_
    refine z_iconst (0 : Int32) dX0_endMove_18 (by decide) ?_
    refine z_iload_n 0 dX0_endMove_19 rfl rfl ?_
    refine z_cV_i (d' := d - 1) (As := [.int (0 : Int32), .int y3.1]) (rest := []) dX0_endMove_20 lk_X0_108 rfl hf (fun w1 e1 => zc_X0_productOfBids (by omega) e1) (by omega) rfl rfl (Nat.le_of_ble_eq_true rfl) fun y13 hf => ?_
    refine z_if_ne 30 dX0_endMove_23 (by decide) hf (fun hf => ?_) (fun hf => ?_)
    · refine z_iconst (1 : Int32) dX0_endMove_26 (by decide) ?_
      refine z_goto 31 dX0_endMove_27 (by decide) ?_
      exact Z.sub [1, 2] rfl (zj_X0_endMove_31 hd hf)
    · exact Z.sub [1, 2] rfl (zj_X0_endMove_30 hd hf)
set_option maxRecDepth 4000 in
theorem zc_X0_playCard {Γ : zG} {N d : Nat} (hd : 14 ≤ d) {a : Nat} {p1 : Int32} {h : zH} {w : Int32 × zH} (hf : f_X0_playCard N a p1 h = some w) : Zm Γ m_X0_playCard d [.ref a, .int p1] h (zoI w) := by
  unfold f_X0_playCard at hf
  refine z_meth rfl (plainFor_of_name wpl_X0) (by simp [lg_sl, Value.category, zml, m_X0_playCard]) ?_
  refine z_aload_n 0 dX0_playCard_0 rfl rfl ?_
  refine z_aload_n 0 dX0_playCard_1 rfl rfl ?_
  refine z_getI dX0_playCard_2 zc0 (by decide) wf_X0_65 hf fun x1 hf => ?_
  refine z_cV_n (d' := d - 1) (As := [.int x1]) (rest := []) dX0_playCard_5 lk_X0_127 rfl hf (fun w1 e1 => zc_X0_bidder (by omega) e1) (by omega) rfl rfl (Nat.le_of_ble_eq_true rfl) (fun y2 hf => ?_) (fun y2 x3 hf => ?_)
  · refine z_astore_nN [(2, .null), (0, .ref a), (1, .int p1)] dX0_playCard_8 rfl (by decide) rfl ?_
    refine z_aload_nN 0 dX0_playCard_9 rfl rfl ?_
    refine z_ifnonnullN dX0_playCard_10 ?_
    refine z_iconst (-1 : Int32) dX0_playCard_13 (by decide) ?_
    exact z_iret dX0_playCard_14 rfl (by cases hf; rfl)
  · refine z_astore_n [(2, .ref x3), (0, .ref a), (1, .int p1)] dX0_playCard_8 rfl (by decide) rfl ?_
    refine z_aload_n 0 dX0_playCard_9 rfl rfl ?_
    refine z_ifnonnull 15 dX0_playCard_10 (by decide) ?_
    refine z_aload_n 1 dX0_playCard_15 rfl rfl ?_
    refine z_aload_n 0 dX0_playCard_16 rfl rfl ?_
    refine z_iload_n 2 dX0_playCard_17 rfl rfl ?_
    refine z_cV_i (d' := d - 1) (As := [.ref x3, .int p1]) (rest := []) dX0_playCard_18 lk_X0_131 rfl hf (fun w1 e1 => zc_X0_priceOf (by omega) e1) (by omega) rfl rfl (Nat.le_of_ble_eq_true rfl) fun y4 hf => ?_
    refine z_istore_n [(3, .int y4.1), (2, .ref x3), (0, .ref a), (1, .int p1)] dX0_playCard_21 rfl (by decide) rfl ?_
    refine z_aload_n 2 dX0_playCard_22 rfl rfl ?_
    refine z_getA dX0_playCard_23 zc0 (by decide) wf_X0_34 hf fun x5 hf => ?_
    refine z_cV_i (d' := d - 1) (As := []) (rest := []) dX0_playCard_26 lk_X0_135 rfl hf (fun w1 e1 => zc_X6_isFull (by omega) e1) (by omega) rfl rfl (Nat.le_of_ble_eq_true rfl) fun y6 hf => ?_
    refine z_if_ne 40 dX0_playCard_29 (by decide) hf (fun hf => ?_) (fun hf => ?_)
    · refine z_aload_n 1 dX0_playCard_32 rfl rfl ?_
      refine z_getI dX0_playCard_33 zc1 (by decide) wf_X0_139 hf fun x7 hf => ?_
      refine z_iload_n 0 dX0_playCard_36 rfl rfl ?_
      refine z_icmp_ge 42 dX0_playCard_37 (by decide) hf (fun hf => ?_) (fun hf => ?_)
      · refine z_aload_n 1 dX0_playCard_42 rfl rfl ?_
        refine z_dup dX0_playCard_43 rfl ?_
        refine z_getI dX0_playCard_44 zc1 (by decide) wf_X0_139 hf fun x8 hf => ?_
        refine z_iload_n 0 dX0_playCard_47 rfl rfl ?_
        refine z_isub dX0_playCard_48 ?_
        refine z_putB dX0_playCard_49 zc1 (by decide) wf_X0_139 (Or.inl rfl) rfl rfl hf fun h9 hf => ?_
        refine z_aload_n 2 dX0_playCard_52 rfl rfl ?_
        refine z_dup dX0_playCard_53 rfl ?_
        refine z_getI dX0_playCard_54 zc0 (by decide) wf_X0_81 hf fun x10 hf => ?_
        refine z_iload_n 0 dX0_playCard_57 rfl rfl ?_
        refine z_iadd dX0_playCard_58 ?_
        refine z_putB dX0_playCard_59 zc0 (by decide) wf_X0_81 (Or.inl rfl) rfl rfl hf fun h11 hf => ?_
        refine z_aload_n 2 dX0_playCard_62 rfl rfl ?_
        refine z_getA dX0_playCard_63 zc0 (by decide) wf_X0_31 hf fun x12 hf => ?_
        refine z_aload_n 2 dX0_playCard_66 rfl rfl ?_
        refine z_getI dX0_playCard_67 zc0 (by decide) wf_X0_65 hf fun x13 hf => ?_
        refine z_cV_v (d' := d - 1) (As := [.int x13]) (rest := []) dX0_playCard_70 lk_X0_142 rfl hf (fun w1 e1 => zc_X6_push (by omega) e1) (by omega) rfl rfl (Nat.le_of_ble_eq_true rfl) fun y14 hf => ?_
        refine z_aload_n 2 dX0_playCard_73 rfl rfl ?_
        refine z_getA dX0_playCard_74 zc0 (by decide) wf_X0_34 hf fun x15 hf => ?_
        refine z_aload_n 1 dX0_playCard_77 rfl rfl ?_
        refine z_getA dX0_playCard_78 zc1 (by decide) wf_X0_114 hf fun x16 hf => ?_
        refine z_iload_n 3 dX0_playCard_81 rfl rfl ?_
        refine z_cV_i (d' := d - 1) (As := [.int p1]) (rest := [.ref x15]) dX0_playCard_82 lk_X0_94 rfl hf (fun w1 e1 => zc_X6_at (by omega) e1) (by omega) rfl rfl (Nat.le_of_ble_eq_true rfl) fun y17 hf => ?_
        refine z_cV_v (d' := d - 1) (As := [.int y17.1]) (rest := []) dX0_playCard_85 lk_X0_142 rfl hf (fun w1 e1 => zc_X6_push (by omega) e1) (by omega) rfl rfl (Nat.le_of_ble_eq_true rfl) fun y18 hf => ?_
        refine z_aload_n 2 dX0_playCard_88 rfl rfl ?_
        refine z_getA dX0_playCard_89 zc0 (by decide) wf_X0_37 hf fun x19 hf => ?_
        refine z_iload_n 0 dX0_playCard_92 rfl rfl ?_
        refine z_cV_v (d' := d - 1) (As := [.int y4.1]) (rest := []) dX0_playCard_93 lk_X0_142 rfl hf (fun w1 e1 => zc_X6_push (by omega) e1) (by omega) rfl rfl (Nat.le_of_ble_eq_true rfl) fun y20 hf => ?_
        refine z_aload_n 1 dX0_playCard_96 rfl rfl ?_
        refine z_iload_n 3 dX0_playCard_97 rfl rfl ?_
        refine z_cV_v (d' := d - 1) (As := [.int p1]) (rest := []) dX0_playCard_98 lk_X0_145 rfl hf (fun w1 e1 => zc_X1_dropCard (by omega) e1) (by omega) rfl rfl (Nat.le_of_ble_eq_true rfl) fun y21 hf => ?_
        refine z_aload_n 2 dX0_playCard_101 rfl rfl ?_
        refine z_aload_n 1 dX0_playCard_102 rfl rfl ?_
        refine z_cV_i (d' := d - 1) (As := [.ref x3]) (rest := []) dX0_playCard_103 lk_X0_148 rfl hf (fun w1 e1 => zc_X0_endMove (by omega) e1) (by omega) rfl rfl (Nat.le_of_ble_eq_true rfl) fun y22 hf => ?_
        exact z_iret dX0_playCard_106 rfl (by cases hf; rfl)
      · refine z_iconst (-1 : Int32) dX0_playCard_40 (by decide) ?_
        exact z_iret dX0_playCard_41 rfl (by cases hf; rfl)
    · refine z_iconst (-1 : Int32) dX0_playCard_40 (by decide) ?_
      exact z_iret dX0_playCard_41 rfl (by cases hf; rfl)
set_option maxRecDepth 4000 in
theorem zc_X8_play {Γ : zG} {N d : Nat} (hd : 15 ≤ d) {a : Nat} {p1 : Int32} {h : zH} {w : (Int32 ⊕ Nat) × zH} (hf : f_X8_play N a p1 h = some w) : Zm Γ m_X8_play d [.ref a, .int p1] h (zoTI w) := by
  unfold f_X8_play at hf
  refine z_meth rfl (plainFor_of_name wpl_X8) (by simp [lg_sl, Value.category, zml, m_X8_play]) ?_
  refine z_aload_n 0 dX8_play_0 rfl rfl ?_
  refine z_cV_ta (d' := d - 1) (As := []) (rest := []) dX8_play_1 lk_X8_202 rfl hf (fun w1 e1 => zc_X8_bidderInTurn (by omega) e1) (by omega) rfl rfl (Nat.le_of_ble_eq_true rfl) (fun y1 x2 hf => ?_) (fun y1 k3 hf => ?_)
  · refine z_getA dX8_play_4 zc1 (by decide) wf_X8_128 hf fun x4 hf => ?_
    refine z_iload_n 1 dX8_play_7 rfl rfl ?_
    refine z_cV_i (d' := d - 1) (As := [.int p1]) (rest := []) dX8_play_8 lk_X8_134 rfl hf (fun w1 e1 => zc_X6_holds (by omega) e1) (by omega) rfl rfl (Nat.le_of_ble_eq_true rfl) fun y5 hf => ?_
    refine z_if_ne 22 dX8_play_11 (by decide) hf (fun hf => ?_) (fun hf => ?_)
    · exact z_throw 3 (by decide) dX8_play_14 dX8_play_17 dX8_play_18 dX8_play_21 wc_X8_138 wi_x3 wx_X8_140a wx_X8_140b (by omega) rfl (Nat.le_of_ble_eq_true rfl) (by cases hf; rfl)
    · refine z_aload_n 0 dX8_play_22 rfl rfl ?_
      refine z_getA dX8_play_23 zc8 (by decide) wf_X8_35 hf fun x6 hf => ?_
      refine z_aload_n 0 dX8_play_26 rfl rfl ?_
      refine z_getA dX8_play_27 zc8 (by decide) wf_X8_28 hf fun x7 hf => ?_
      refine z_cV_v (d' := d - 1) (As := [.ref x7]) (rest := []) dX8_play_30 lk_X8_72 rfl hf (fun w1 e1 => zc_X4_remember (by omega) e1) (by omega) rfl rfl (Nat.le_of_ble_eq_true rfl) fun y8 hf => ?_
      refine z_aload_n 0 dX8_play_33 rfl rfl ?_
      refine z_getA dX8_play_34 zc8 (by decide) wf_X8_28 hf fun x9 hf => ?_
      refine z_iload_n 1 dX8_play_37 rfl rfl ?_
      refine z_cV_i (d' := d - 1) (As := [.int p1]) (rest := []) dX8_play_38 lk_X8_206 rfl hf (fun w1 e1 => zc_X0_playCard (by omega) e1) (by omega) rfl rfl (Nat.le_of_ble_eq_true rfl) fun y10 hf => ?_
      exact z_iret dX8_play_41 rfl (by cases hf; rfl)
  · exact zx_out rfl (by cases hf; rfl)
set_option maxRecDepth 4000 in
theorem zc_L_play {Γ : zG} {N d : Nat} (hd : 16 ≤ d) {p1 : Nat} {p2 : Int32} {h : zH} {w : Int32 × zH} (hf : f_L_play N p1 p2 h = some w) : Zm Γ m_L_play d [.ref p1, .int p2] h (zoI w) := by
  unfold f_L_play at hf
  refine z_methH (by decide) (by decide +kernel) (by simp [lg_sl, Value.category, zml, m_L_play]) ?_
  refine z_aload_n 0 dL_play_0 rfl rfl ?_
  refine z_iload_n 1 dL_play_1 rfl rfl ?_
  refine z_cV_ti (d' := d - 1) (As := [.int p2]) (rest := []) dL_play_2 lk_L_94 rfl hf (fun w1 e1 => zc_X8_play (by omega) e1) (by omega) rfl rfl (Nat.le_of_ble_eq_true rfl) (fun y1 x2 hf => ?_) (fun y1 k3 hf => ?_)
  · exact z_iret dL_play_5 rfl (by cases hf; rfl)
  · by_cases e0 : k3 = 0
    · rw [if_pos e0] at hf
      subst e0
      refine zx_catch (by decide) [] (0, 5, 6, 97) [(0, 5, 10, 57)] rfl (fun z hz => absurd hz List.not_mem_nil) (by decide) (by decide) wc_L_97 wct_0 fun q4 => ?_
      refine z_astore_n [(2, .ref q4), (0, .ref p1), (1, .int p2)] dL_play_6 rfl (by decide) rfl ?_
      refine z_ldc (-2000000099 : Int32) dL_play_7 wk_L_99 ?_
      exact z_iret dL_play_9 rfl (by cases hf; rfl)
    · rw [if_neg e0] at hf
      by_cases e1 : k3 = 3
      · rw [if_pos e1] at hf
        subst e1
        refine zx_catch (by decide) [(0, 5, 6, 97)] (0, 5, 10, 57) [] rfl (List.forall_mem_cons.mpr ⟨⟨by decide, 0, by decide, by decide, wc_L_97⟩, fun z hz => absurd hz List.not_mem_nil⟩) (by decide) (by decide) wc_L_57 wct_3 fun q5 => ?_
        refine z_astore_n [(2, .ref q5), (0, .ref p1), (1, .int p2)] dL_play_10 rfl (by decide) rfl ?_
        refine z_ldc (-2000000100 : Int32) dL_play_11 wk_L_59 ?_
        exact z_iret dL_play_13 rfl (by cases hf; rfl)
      · rw [if_neg e1] at hf
        cases hf
set_option maxRecDepth 4000 in
theorem zj_X0_passTurn_48 {Γ : zG} {N d : Nat} {h0 : zH} (hd : 13 ≤ d) {v0 : Nat} {v1 : Int32}  {h : zH} {w : Int32 × zH} (hf : f_X0_passTurn_j48 N v0 v1  h = some w) : Z Γ m_X0_passTurn d h0 (zoI w) 48 [(0, .ref v0), (1, .int v1)] [] h := by
  unfold f_X0_passTurn_j48 at hf
  refine z_aload_n 0 dX0_passTurn_48 rfl rfl ?_
  refine z_cV_v (d' := d - 1) (As := []) (rest := []) dX0_passTurn_49 lk_X0_161 rfl hf (fun w1 e1 => zc_X0_turnToNext (by omega) e1) (by omega) rfl rfl (Nat.le_of_ble_eq_true rfl) fun y5 hf => ?_
  refine z_iload_n 1 dX0_passTurn_52 rfl rfl ?_
  refine z_if_eq 60 dX0_passTurn_53 (by decide) hf (fun hf => ?_) (fun hf => ?_)
  · refine z_iconst (0 : Int32) dX0_passTurn_60 (by decide) ?_
    exact z_iret dX0_passTurn_61 rfl (by cases hf; rfl)
  · refine z_iconst (1 : Int32) dX0_passTurn_56 (by decide) ?_
    refine z_goto 61 dX0_passTurn_57 (by decide) ?_
    exact z_iret dX0_passTurn_61 rfl (by cases hf; rfl)
set_option maxRecDepth 4000 in
theorem zj_X0_passTurn_26 {Γ : zG} {N d : Nat} {h0 : zH} (hd : 13 ≤ d) {v0 : Nat} {s0 : Int32} {h : zH} {w : Int32 × zH} (hf : f_X0_passTurn_j26 N v0 s0 h = some w) : Z Γ m_X0_passTurn d h0 (zoI w) 26 [(0, .ref v0)] [.int s0] h := by
  unfold f_X0_passTurn_j26 at hf
  refine z_istore_n [(1, .int s0), (0, .ref v0)] dX0_passTurn_26 rfl (by decide) rfl ?_
  refine z_iload_n 0 dX0_passTurn_27 rfl rfl ?_
  refine z_if_eq 48 dX0_passTurn_28 (by decide) hf (fun hf => ?_) (fun hf => ?_)
  · exact Z.sub [1, 0] rfl (zj_X0_passTurn_48 hd hf)
  · refine z_aload_n 1 dX0_passTurn_31 rfl rfl ?_
    refine z_dup dX0_passTurn_32 rfl ?_
    refine z_getI dX0_passTurn_33 zc0 (by decide) wf_X0_68 hf fun x6 hf => ?_
    refine z_aload_n 1 dX0_passTurn_36 rfl rfl ?_
    refine z_getI dX0_passTurn_37 zc0 (by decide) wf_X0_81 hf fun x7 hf => ?_
    refine z_iadd dX0_passTurn_40 ?_
    refine z_putB dX0_passTurn_41 zc0 (by decide) wf_X0_68 (Or.inl rfl) rfl rfl hf fun h8 hf => ?_
    refine z_aload_n 1 dX0_passTurn_44 rfl rfl ?_
    refine z_cV_v (d' := d - 1) (As := []) (rest := []) dX0_passTurn_45 lk_X0_158 rfl hf (fun w1 e1 => zc_X0_openNextLot (by omega) e1) (by omega) rfl rfl (Nat.le_of_ble_eq_true rfl) fun y9 hf => ?_
    exact Z.sub [1, 0] rfl (zj_X0_passTurn_48 hd hf)
set_option maxRecDepth 4000 in
theorem zc_X0_passTurn {Γ : zG} {N d : Nat} (hd : 13 ≤ d) {a : Nat} {h : zH} {w : Int32 × zH} (hf : f_X0_passTurn N a h = some w) : Zm Γ m_X0_passTurn d [.ref a] h (zoI w) := by
  unfold f_X0_passTurn at hf
  refine z_meth rfl (plainFor_of_name wpl_X0) (by simp [lg_sl, Value.category, zml, m_X0_passTurn]) ?_
  refine z_aload_n 0 dX0_passTurn_0 rfl rfl ?_
  refine z_dup dX0_passTurn_1 rfl ?_
  refine z_getI dX0_passTurn_2 zc0 (by decide) wf_X0_84 hf fun x1 hf => ?_
  refine z_iconst (1 : Int32) dX0_passTurn_5 (by decide) ?_
  refine z_iadd dX0_passTurn_6 ?_
  refine z_putB dX0_passTurn_7 zc0 (by decide) wf_X0_84 (Or.inl rfl) rfl rfl hf fun h2 hf => ?_
  refine z_aload_n 0 dX0_passTurn_10 rfl rfl ?_
  refine z_getI dX0_passTurn_11 zc0 (by decide) wf_X0_84 hf fun x3 hf => ?_
  refine z_aload_n 0 dX0_passTurn_14 rfl rfl ?_
  refine z_getI dX0_passTurn_15 zc0 (by decide) wf_X0_56 hf fun x4 hf => ?_
  refine z_icmp_ne 25 dX0_passTurn_18 (by decide) hf (fun hf => ?_) (fun hf => ?_)
  · refine z_iconst (1 : Int32) dX0_passTurn_21 (by decide) ?_
    refine z_goto 26 dX0_passTurn_22 (by decide) ?_
    exact Z.sub [0] rfl (zj_X0_passTurn_26 hd hf)
  · refine z_iconst (0 : Int32) dX0_passTurn_25 (by decide) ?_
    exact Z.sub [0] rfl (zj_X0_passTurn_26 hd hf)
set_option maxRecDepth 4000 in
theorem zc_X8_pass {Γ : zG} {N d : Nat} (hd : 15 ≤ d) {a : Nat} {h : zH} {w : (Int32 ⊕ Nat) × zH} (hf : f_X8_pass N a h = some w) : Zm Γ m_X8_pass d [.ref a] h (zoTI w) := by
  unfold f_X8_pass at hf
  refine z_meth rfl (plainFor_of_name wpl_X8) (by simp [lg_sl, Value.category, zml, m_X8_pass]) ?_
  refine z_aload_n 0 dX8_pass_0 rfl rfl ?_
  refine z_getA dX8_pass_1 zc8 (by decide) wf_X8_28 hf fun x1 hf => ?_
  refine z_cV_i (d' := d - 1) (As := []) (rest := []) dX8_pass_4 lk_X8_98 rfl hf (fun w1 e1 => zc_X0_isOver (by omega) e1) (by omega) rfl rfl (Nat.le_of_ble_eq_true rfl) fun y2 hf => ?_
  refine z_if_eq 18 dX8_pass_7 (by decide) hf (fun hf => ?_) (fun hf => ?_)
  · refine z_aload_n 0 dX8_pass_18 rfl rfl ?_
    refine z_getA dX8_pass_19 zc8 (by decide) wf_X8_35 hf fun x3 hf => ?_
    refine z_aload_n 0 dX8_pass_22 rfl rfl ?_
    refine z_getA dX8_pass_23 zc8 (by decide) wf_X8_28 hf fun x4 hf => ?_
    refine z_cV_v (d' := d - 1) (As := [.ref x4]) (rest := []) dX8_pass_26 lk_X8_72 rfl hf (fun w1 e1 => zc_X4_remember (by omega) e1) (by omega) rfl rfl (Nat.le_of_ble_eq_true rfl) fun y5 hf => ?_
    refine z_aload_n 0 dX8_pass_29 rfl rfl ?_
    refine z_getA dX8_pass_30 zc8 (by decide) wf_X8_28 hf fun x6 hf => ?_
    refine z_cV_i (d' := d - 1) (As := []) (rest := []) dX8_pass_33 lk_X8_215 rfl hf (fun w1 e1 => zc_X0_passTurn (by omega) e1) (by omega) rfl rfl (Nat.le_of_ble_eq_true rfl) fun y7 hf => ?_
    exact z_iret dX8_pass_36 rfl (by cases hf; rfl)
  · exact z_throw 0 (by decide) dX8_pass_10 dX8_pass_13 dX8_pass_14 dX8_pass_17 wc_X8_212 wi_x0 wx_X8_214a wx_X8_214b (by omega) rfl (Nat.le_of_ble_eq_true rfl) (by cases hf; rfl)
set_option maxRecDepth 4000 in
theorem zc_L_pass {Γ : zG} {N d : Nat} (hd : 16 ≤ d) {p1 : Nat} {h : zH} {w : Int32 × zH} (hf : f_L_pass N p1 h = some w) : Zm Γ m_L_pass d [.ref p1] h (zoI w) := by
  unfold f_L_pass at hf
  refine z_methH (by decide) (by decide +kernel) (by simp [lg_sl, Value.category, zml, m_L_pass]) ?_
  refine z_aload_n 0 dL_pass_0 rfl rfl ?_
  refine z_cV_ti (d' := d - 1) (As := []) (rest := []) dL_pass_1 lk_L_103 rfl hf (fun w1 e1 => zc_X8_pass (by omega) e1) (by omega) rfl rfl (Nat.le_of_ble_eq_true rfl) (fun y1 x2 hf => ?_) (fun y1 k3 hf => ?_)
  · exact z_iret dL_pass_4 rfl (by cases hf; rfl)
  · by_cases e0 : k3 = 0
    · rw [if_pos e0] at hf
      subst e0
      refine zx_catch (by decide) [] (0, 4, 5, 97) [] rfl (fun z hz => absurd hz List.not_mem_nil) (by decide) (by decide) wc_L_97 wct_0 fun q4 => ?_
      refine z_astore_n [(1, .ref q4), (0, .ref p1)] dL_pass_5 rfl (by decide) rfl ?_
      refine z_ldc (-2000000099 : Int32) dL_pass_6 wk_L_99 ?_
      exact z_iret dL_pass_8 rfl (by cases hf; rfl)
    · rw [if_neg e0] at hf
      cases hf
set_option maxRecDepth 4000 in
theorem zl_X2_fromNumber_11 {Γ : zG} {N d : Nat} {h0 : zH} (hd : 11 ≤ d) {v0 : Nat} {v2 : Int32} {k1 : Int32 → Int32 → Int32 → zH → Option (Int32 × zH)} {w : Int32 × zH}  (hk1 : ∀ (v3 : Int32) (v4 : Int32) (v5 : Int32) (h : zH), k1 v3 v4 v5 h = some w → Z Γ m_X2_fromNumber d h0 (zoI w) 87 [(0, .ref v0), (3, .int v3), (4, .int v4), (5, .int v5)] [] h) : ∀ (n : Nat) (v3 : Int32) (v4 : Int32) (v5 : Int32) (v6 : Int32) (h : zH), f_X2_fromNumber_l11 N v0 v2 k1 n v3 v4 v5 v6 h = some w → Z Γ m_X2_fromNumber d h0 (zoI w) 11 [(0, .ref v0), (2, .int v2), (3, .int v3), (4, .int v4), (5, .int v5), (6, .int v6)] [] h := by
  intro n
  induction n with
  | zero => intro v3 v4 v5 v6 h hf; cases hf
  | succ n ih =>
    intro v3 v4 v5 v6 h hf
    rw [f_X2_fromNumber_l11] at hf
    refine z_iload 5 dX2_fromNumber_11 rfl ?_
    refine z_if_lt 87 dX2_fromNumber_13 (by decide) hf (fun hf => ?_) (fun hf => ?_)
    · exact Z.sub [0, 2, 3, 4] rfl (hk1 v3 v4 v5 h hf)
    · refine z_iload 5 dX2_fromNumber_16 rfl ?_
      refine z_istore [(7, .int v6), (0, .ref v0), (2, .int v2), (3, .int v3), (4, .int v4), (5, .int v5), (6, .int v6)] dX2_fromNumber_18 (by decide) rfl ?_
      refine z_iload 6 dX2_fromNumber_20 rfl ?_
      refine z_iload_n 2 dX2_fromNumber_22 rfl rfl ?_
      refine zjn_elim (P := fun (j52 : Int32 → Int32 → Int32 → Int32 → Int32 → zH → Option (Int32 × zH)) => ∀ (v3 : Int32) (v4 : Int32) (v5 : Int32) (v6 : Int32) (v7 : Int32) (h : zH), j52 v3 v4 v5 v6 v7 h = some w → Z Γ m_X2_fromNumber d h0 (zoI w) 52 [(0, .ref v0), (2, .int v2), (3, .int v3), (4, .int v4), (5, .int v5), (6, .int v6), (7, .int v7)] [] h) hf (fun v3 v4 v5 v6 v7 h hf => ?_) (fun j52 hj52 hf => ?_)
      · refine z_iload 3 dX2_fromNumber_52 rfl ?_
        refine z_iconst (1 : Int32) dX2_fromNumber_54 (by decide) ?_
        refine z_iload 6 dX2_fromNumber_55 rfl ?_
        refine z_ishl dX2_fromNumber_57 ?_
        refine z_ior dX2_fromNumber_58 ?_
        refine z_istore [(4, .int (v4 ||| ((1 : Int32) <<< (v7 &&& 31)))), (0, .ref v0), (2, .int v2), (3, .int v3), (5, .int v5), (6, .int v6), (7, .int v7)] dX2_fromNumber_59 (by decide) rfl ?_
        refine z_iload 5 dX2_fromNumber_61 rfl ?_
        refine zjn_elim (P := fun (j79 : Int32 → Int32 → Int32 → Int32 → zH → Option (Int32 × zH)) => ∀ (v3 : Int32) (v4 : Int32) (v6 : Int32) (s0 : Int32) (h : zH), j79 v3 v4 v6 s0 h = some w → Z Γ m_X2_fromNumber d h0 (zoI w) 79 [(0, .ref v0), (2, .int v2), (3, .int v3), (4, .int v4), (6, .int v6)] [.int s0] h) hf (fun v3 v4 v6 s0 h hf => ?_) (fun j79 hj79 hf => ?_)
        · refine z_istore [(5, .int s0), (0, .ref v0), (2, .int v2), (3, .int v3), (4, .int v4), (6, .int v6)] dX2_fromNumber_79 (by decide) rfl ?_
          refine z_iinc (v6 + (-1 : Int32)) 5 [(6, .int (v6 + (-1 : Int32))), (5, .int s0), (0, .ref v0), (2, .int v2), (3, .int v3), (4, .int v4)] dX2_fromNumber_81 rfl rfl (by decide) rfl ?_
          refine z_goto 11 dX2_fromNumber_84 (by decide) ?_
          exact Z.sub [2, 3, 4, 5, 1, 0] rfl (ih v3 v4 s0 (v6 + (-1 : Int32)) h hf)
        · refine z_if_le 77 dX2_fromNumber_63 (by decide) hf (fun hf => ?_) (fun hf => ?_)
          · refine z_iload 4 dX2_fromNumber_77 rfl ?_
            exact Z.sub [1, 2, 3, 0, 5] rfl (hj79 v3 (v4 ||| ((1 : Int32) <<< (v7 &&& 31))) v6 v5 h hf)
          · refine z_aload_n 1 dX2_fromNumber_66 rfl rfl ?_
            refine z_iload 4 dX2_fromNumber_67 rfl ?_
            refine z_iload 6 dX2_fromNumber_69 rfl ?_
            refine z_cV_i (d' := d - 1) (As := [.int v5, .int v7]) (rest := []) dX2_fromNumber_71 lk_X2_28 rfl hf (fun w1 e1 => zc_X2_longerKey (by omega) e1) (by omega) rfl rfl (Nat.le_of_ble_eq_true rfl) fun y3 hf => ?_
            refine z_goto 79 dX2_fromNumber_74 (by decide) ?_
            exact Z.sub [1, 2, 3, 0, 5] rfl (hj79 v3 (v4 ||| ((1 : Int32) <<< (v7 &&& 31))) v6 y3.1 y3.2 hf)
      · refine z_icmp_ge 52 dX2_fromNumber_23 (by decide) hf (fun hf => ?_) (fun hf => ?_)
        · exact Z.sub [1, 2, 3, 4, 5, 6, 0] rfl (hj52 v3 v4 v5 v6 v6 h hf)
        · refine z_iload_n 3 dX2_fromNumber_26 rfl rfl ?_
          refine z_bipush (10 : Int32) dX2_fromNumber_27 (by decide) ?_
          refine z_irem dX2_fromNumber_29 hf fun x1 hf => ?_
          refine z_iconst (1 : Int32) dX2_fromNumber_30 (by decide) ?_
          refine z_isub dX2_fromNumber_31 ?_
          refine z_istore [(7, .int (x1 - (1 : Int32))), (0, .ref v0), (2, .int v2), (3, .int v3), (4, .int v4), (5, .int v5), (6, .int v6)] dX2_fromNumber_32 (by decide) rfl ?_
          refine z_iload_n 3 dX2_fromNumber_34 rfl rfl ?_
          refine z_bipush (10 : Int32) dX2_fromNumber_35 (by decide) ?_
          refine z_idiv dX2_fromNumber_37 hf fun x2 hf => ?_
          refine z_istore_n [(3, .int x2), (7, .int (x1 - (1 : Int32))), (0, .ref v0), (2, .int v2), (4, .int v4), (5, .int v5), (6, .int v6)] dX2_fromNumber_38 rfl (by decide) rfl ?_
          refine z_iload 1 dX2_fromNumber_39 rfl ?_
          refine z_if_lt 50 dX2_fromNumber_41 (by decide) hf (fun hf => ?_) (fun hf => ?_)
          · refine z_iconst (-1 : Int32) dX2_fromNumber_50 (by decide) ?_
            exact z_iret dX2_fromNumber_51 rfl (by cases hf; rfl)
          · refine z_iload 1 dX2_fromNumber_44 rfl ?_
            refine z_iload_n 3 dX2_fromNumber_46 rfl rfl ?_
            refine z_icmp_lt 52 dX2_fromNumber_47 (by decide) hf (fun hf => ?_) (fun hf => ?_)
            · exact Z.sub [2, 3, 0, 4, 5, 6, 1] rfl (hj52 x2 v4 v5 v6 (x1 - (1 : Int32)) h hf)
            · refine z_iconst (-1 : Int32) dX2_fromNumber_50 (by decide) ?_
              exact z_iret dX2_fromNumber_51 rfl (by cases hf; rfl)
set_option maxRecDepth 4000 in
theorem zc_X2_fromNumber {Γ : zG} {N d : Nat} (hd : 11 ≤ d) {a : Nat} {p1 : Int32} {p2 : Int32} {h : zH} {w : Int32 × zH} (hf : f_X2_fromNumber N a p1 p2 h = some w) : Zm Γ m_X2_fromNumber d [.ref a, .int p1, .int p2] h (zoI w) := by
  unfold f_X2_fromNumber at hf
  refine z_meth rfl (plainFor_of_name wpl_X2) (by simp [lg_sl, Value.category, zml, m_X2_fromNumber]) ?_
  refine z_iload_n 1 dX2_fromNumber_0 rfl rfl ?_
  refine z_istore_n [(3, .int p1), (0, .ref a), (1, .int p1), (2, .int p2)] dX2_fromNumber_1 rfl (by decide) rfl ?_
  refine z_iconst (0 : Int32) dX2_fromNumber_2 (by decide) ?_
  refine z_istore [(4, .int (0 : Int32)), (3, .int p1), (0, .ref a), (1, .int p1), (2, .int p2)] dX2_fromNumber_3 (by decide) rfl ?_
  refine z_iconst (0 : Int32) dX2_fromNumber_5 (by decide) ?_
  refine z_istore [(5, .int (0 : Int32)), (4, .int (0 : Int32)), (3, .int p1), (0, .ref a), (1, .int p1), (2, .int p2)] dX2_fromNumber_6 (by decide) rfl ?_
  refine z_iconst (4 : Int32) dX2_fromNumber_8 (by decide) ?_
  refine z_istore [(6, .int (4 : Int32)), (5, .int (0 : Int32)), (4, .int (0 : Int32)), (3, .int p1), (0, .ref a), (1, .int p1), (2, .int p2)] dX2_fromNumber_9 (by decide) rfl ?_
  refine Z.sub [4, 6, 3, 2, 1, 0] rfl (zl_X2_fromNumber_11 hd (fun u4 u5 u6 h7 hf => ?_) N p1 (0 : Int32) (0 : Int32) (4 : Int32) h hf)
  · refine z_iload_n 1 dX2_fromNumber_87 rfl rfl ?_
    refine z_if_ne 100 dX2_fromNumber_88 (by decide) hf (fun hf => ?_) (fun hf => ?_)
    · refine z_iload 2 dX2_fromNumber_91 rfl ?_
      refine z_cS_i (d' := d - 1) (As := [.int u5]) (rest := []) dX2_fromNumber_93 lk_X2_18 hf (fun w1 e1 => zc_J6_bitCount_0f7a4 (by omega) e1) (by omega) rfl rfl (Nat.le_of_ble_eq_true rfl) fun y8 hf => ?_
      refine z_iconst (5 : Int32) dX2_fromNumber_96 (by decide) ?_
      refine z_icmp_eq 102 dX2_fromNumber_97 (by decide) hf (fun hf => ?_) (fun hf => ?_)
      · refine z_aload_n 0 dX2_fromNumber_102 rfl rfl ?_
        refine z_iload 3 dX2_fromNumber_103 rfl ?_
        refine z_cV_i (d' := d - 1) (As := [.int u6]) (rest := []) dX2_fromNumber_105 lk_X2_31 rfl hf (fun w1 e1 => zc_X2_withKey (by omega) e1) (by omega) rfl rfl (Nat.le_of_ble_eq_true rfl) fun y9 hf => ?_
        exact z_iret dX2_fromNumber_108 rfl (by cases hf; rfl)
      · refine z_iconst (-1 : Int32) dX2_fromNumber_100 (by decide) ?_
        exact z_iret dX2_fromNumber_101 rfl (by cases hf; rfl)
    · refine z_iconst (-1 : Int32) dX2_fromNumber_100 (by decide) ?_
      exact z_iret dX2_fromNumber_101 rfl (by cases hf; rfl)

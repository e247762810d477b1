set_option maxRecDepth 4000 in
theorem zc_X2_goal {Γ : zG} {N d : Nat} (hd : 10 ≤ d) {a : Nat} {p1 : Int32} {p2 : Int32} {h : zH} {w : Int32 × zH} (hf : f_X2_goal N a p1 p2 h = some w) : Zm Γ m_X2_goal d [.ref a, .int p1, .int p2] h (zoI w) := by
  unfold f_X2_goal at hf
  refine z_meth rfl (plainFor_of_name wpl_X2) (by simp [lg_sl, Value.category, zml, m_X2_goal]) ?_
  refine z_iload_n 1 dX2_goal_0 rfl rfl ?_
  refine z_if_lt 19 dX2_goal_1 (by decide) hf (fun hf => ?_) (fun hf => ?_)
  · refine z_iconst (0 : Int32) dX2_goal_19 (by decide) ?_
    exact z_iret dX2_goal_20 rfl (by cases hf; rfl)
  · refine z_iload_n 1 dX2_goal_4 rfl rfl ?_
    refine z_bipush (120 : Int32) dX2_goal_5 (by decide) ?_
    refine z_icmp_ge 19 dX2_goal_7 (by decide) hf (fun hf => ?_) (fun hf => ?_)
    · refine z_iconst (0 : Int32) dX2_goal_19 (by decide) ?_
      exact z_iret dX2_goal_20 rfl (by cases hf; rfl)
    · refine z_iload_n 2 dX2_goal_10 rfl rfl ?_
      refine z_if_lt 19 dX2_goal_11 (by decide) hf (fun hf => ?_) (fun hf => ?_)
      · refine z_iconst (0 : Int32) dX2_goal_19 (by decide) ?_
        exact z_iret dX2_goal_20 rfl (by cases hf; rfl)
      · refine z_iload_n 2 dX2_goal_14 rfl rfl ?_
        refine z_iconst (5 : Int32) dX2_goal_15 (by decide) ?_
        refine z_icmp_lt 21 dX2_goal_16 (by decide) hf (fun hf => ?_) (fun hf => ?_)
        · refine z_aload_n 0 dX2_goal_21 rfl rfl ?_
          refine z_getA dX2_goal_22 zc2 (by decide) wf_X2_9 hf fun x1 hf => ?_
          refine z_iload_n 1 dX2_goal_25 rfl rfl ?_
          refine z_iconst (5 : Int32) dX2_goal_26 (by decide) ?_
          refine z_imul dX2_goal_27 ?_
          refine z_iload_n 2 dX2_goal_28 rfl rfl ?_
          refine z_iadd dX2_goal_29 ?_
          refine z_iaload dX2_goal_30 hf fun x2 hf => ?_
          exact z_iret dX2_goal_31 rfl (by cases hf; rfl)
        · refine z_iconst (0 : Int32) dX2_goal_19 (by decide) ?_
          exact z_iret dX2_goal_20 rfl (by cases hf; rfl)
set_option maxRecDepth 4000 in
theorem zl_X2_toNumber_5 {Γ : zG} {N d : Nat} {h0 : zH} (hd : 11 ≤ d) {v0 : Nat} {v1 : Int32} {v2 : Int32}  {w : Int32 × zH}   : ∀ (n : Nat) (v3 : Int32) (v4 : Int32) (h : zH), f_X2_toNumber_l5 N v0 v1 v2 n v3 v4 h = some w → Z Γ m_X2_toNumber d h0 (zoI w) 5 [(0, .ref v0), (1, .int v1), (2, .int v2), (3, .int v3), (4, .int v4)] [] h := by
  intro n
  induction n with
  | zero => intro v3 v4 h hf; cases hf
  | succ n ih =>
    intro v3 v4 h hf
    rw [f_X2_toNumber_l5] at hf
    refine z_iload 4 dX2_toNumber_5 rfl ?_
    refine z_iload_n 2 dX2_toNumber_7 rfl rfl ?_
    refine z_icmp_ge 38 dX2_toNumber_8 (by decide) hf (fun hf => ?_) (fun hf => ?_)
    · refine z_iload_n 3 dX2_toNumber_38 rfl rfl ?_
      exact z_iret dX2_toNumber_39 rfl (by cases hf; rfl)
    · refine z_iload 4 dX2_toNumber_11 rfl ?_
      refine z_iconst (5 : Int32) dX2_toNumber_13 (by decide) ?_
      refine z_icmp_ge 38 dX2_toNumber_14 (by decide) hf (fun hf => ?_) (fun hf => ?_)
      · refine z_iload_n 3 dX2_toNumber_38 rfl rfl ?_
        exact z_iret dX2_toNumber_39 rfl (by cases hf; rfl)
      · refine z_iload_n 3 dX2_toNumber_17 rfl rfl ?_
        refine z_bipush (10 : Int32) dX2_toNumber_18 (by decide) ?_
        refine z_imul dX2_toNumber_20 ?_
        refine z_aload_n 0 dX2_toNumber_21 rfl rfl ?_
        refine z_iload_n 1 dX2_toNumber_22 rfl rfl ?_
        refine z_iload 4 dX2_toNumber_23 rfl ?_
        refine z_cV_i (d' := d - 1) (As := [.int v1, .int v4]) (rest := [.int (v3 * (10 : Int32))]) dX2_toNumber_25 lk_X2_24 rfl hf (fun w1 e1 => zc_X2_goal (by omega) e1) (by omega) rfl rfl (Nat.le_of_ble_eq_true rfl) fun y1 hf => ?_
        refine z_iadd dX2_toNumber_28 ?_
        refine z_iconst (1 : Int32) dX2_toNumber_29 (by decide) ?_
        refine z_iadd dX2_toNumber_30 ?_
        refine z_istore_n [(3, .int (((v3 * (10 : Int32)) + y1.1) + (1 : Int32))), (0, .ref v0), (1, .int v1), (2, .int v2), (4, .int v4)] dX2_toNumber_31 rfl (by decide) rfl ?_
        refine z_iinc (v4 + (1 : Int32)) 4 [(4, .int (v4 + (1 : Int32))), (3, .int (((v3 * (10 : Int32)) + y1.1) + (1 : Int32))), (0, .ref v0), (1, .int v1), (2, .int v2)] dX2_toNumber_32 rfl rfl (by decide) rfl ?_
        refine z_goto 5 dX2_toNumber_35 (by decide) ?_
        exact Z.sub [2, 3, 4, 1, 0] rfl (ih (((v3 * (10 : Int32)) + y1.1) + (1 : Int32)) (v4 + (1 : Int32)) y1.2 hf)
set_option maxRecDepth 4000 in
theorem zc_X2_toNumber {Γ : zG} {N d : Nat} (hd : 11 ≤ d) {a : Nat} {p1 : Int32} {p2 : Int32} {h : zH} {w : Int32 × zH} (hf : f_X2_toNumber N a p1 p2 h = some w) : Zm Γ m_X2_toNumber d [.ref a, .int p1, .int p2] h (zoI w) := by
  unfold f_X2_toNumber at hf
  refine z_meth rfl (plainFor_of_name wpl_X2) (by simp [lg_sl, Value.category, zml, m_X2_toNumber]) ?_
  refine z_iconst (0 : Int32) dX2_toNumber_0 (by decide) ?_
  refine z_istore_n [(3, .int (0 : Int32)), (0, .ref a), (1, .int p1), (2, .int p2)] dX2_toNumber_1 rfl (by decide) rfl ?_
  refine z_iconst (0 : Int32) dX2_toNumber_2 (by decide) ?_
  refine z_istore [(4, .int (0 : Int32)), (3, .int (0 : Int32)), (0, .ref a), (1, .int p1), (2, .int p2)] dX2_toNumber_3 (by decide) rfl ?_
  refine Z.sub [2, 3, 4, 1, 0] rfl (zl_X2_toNumber_5 hd  N (0 : Int32) (0 : Int32) h hf)
set_option maxRecDepth 4000 in
theorem zc_X8_numberOf {Γ : zG} {N d : Nat} (hd : 12 ≤ d) {a : Nat} {p1 : Int32} {h : zH} {w : Int32 × zH} (hf : f_X8_numberOf N a p1 h = some w) : Zm Γ m_X8_numberOf d [.ref a, .int p1] h (zoI w) := by
  unfold f_X8_numberOf at hf
  refine z_meth rfl (plainFor_of_name wpl_X8) (by simp [lg_sl, Value.category, zml, m_X8_numberOf]) ?_
  refine z_aload_n 0 dX8_numberOf_0 rfl rfl ?_
  refine z_getA dX8_numberOf_1 zc8 (by decide) wf_X8_10 hf fun x1 hf => ?_
  refine z_iload_n 1 dX8_numberOf_4 rfl rfl ?_
  refine z_aload_n 0 dX8_numberOf_5 rfl rfl ?_
  refine z_getA dX8_numberOf_6 zc8 (by decide) wf_X8_28 hf fun x2 hf => ?_
  refine z_getI dX8_numberOf_9 zc0 (by decide) wf_X8_86 hf fun x3 hf => ?_
  refine z_cV_i (d' := d - 1) (As := [.int p1, .int x3]) (rest := []) dX8_numberOf_12 lk_X8_263 rfl hf (fun w1 e1 => zc_X2_toNumber (by omega) e1) (by omega) rfl rfl (Nat.le_of_ble_eq_true rfl) fun y4 hf => ?_
  exact z_iret dX8_numberOf_15 rfl (by cases hf; rfl)
set_option maxRecDepth 4000 in
theorem zc_X2_longerKey {Γ : zG} {N d : Nat} (hd : 10 ≤ d) {a : Nat} {p1 : Int32} {p2 : Int32} {h : zH} {w : Int32 × zH} (hf : f_X2_longerKey N a p1 p2 h = some w) : Zm Γ m_X2_longerKey d [.ref a, .int p1, .int p2] h (zoI w) := by
  unfold f_X2_longerKey at hf
  refine z_meth rfl (plainFor_of_name wpl_X2) (by simp [lg_sl, Value.category, zml, m_X2_longerKey]) ?_
  refine z_iload_n 1 dX2_longerKey_0 rfl rfl ?_
  refine z_iconst (5 : Int32) dX2_longerKey_1 (by decide) ?_
  refine z_imul dX2_longerKey_2 ?_
  refine z_iconst (5 : Int32) dX2_longerKey_3 (by decide) ?_
  refine z_iadd dX2_longerKey_4 ?_
  refine z_iconst (1 : Int32) dX2_longerKey_5 (by decide) ?_
  refine z_isub dX2_longerKey_6 ?_
  refine z_iload_n 2 dX2_longerKey_7 rfl rfl ?_
  refine z_isub dX2_longerKey_8 ?_
  exact z_iret dX2_longerKey_9 rfl (by cases hf; rfl)
set_option maxRecDepth 4000 in
theorem zc_X2_withKey {Γ : zG} {N d : Nat} (hd : 10 ≤ d) {a : Nat} {p1 : Int32} {h : zH} {w : Int32 × zH} (hf : f_X2_withKey N a p1 h = some w) : Zm Γ m_X2_withKey d [.ref a, .int p1] h (zoI w) := by
  unfold f_X2_withKey at hf
  refine z_meth rfl (plainFor_of_name wpl_X2) (by simp [lg_sl, Value.category, zml, m_X2_withKey]) ?_
  refine z_iload_n 1 dX2_withKey_0 rfl rfl ?_
  refine z_if_lt 20 dX2_withKey_1 (by decide) hf (fun hf => ?_) (fun hf => ?_)
  · refine z_iconst (0 : Int32) dX2_withKey_20 (by decide) ?_
    exact z_iret dX2_withKey_21 rfl (by cases hf; rfl)
  · refine z_iload_n 1 dX2_withKey_4 rfl rfl ?_
    refine z_sipush (625 : Int32) dX2_withKey_5 (by decide) ?_
    refine z_icmp_ge 20 dX2_withKey_8 (by decide) hf (fun hf => ?_) (fun hf => ?_)
    · refine z_iconst (0 : Int32) dX2_withKey_20 (by decide) ?_
      exact z_iret dX2_withKey_21 rfl (by cases hf; rfl)
    · refine z_aload_n 0 dX2_withKey_11 rfl rfl ?_
      refine z_getA dX2_withKey_12 zc2 (by decide) wf_X2_15 hf fun x1 hf => ?_
      refine z_iload_n 1 dX2_withKey_15 rfl rfl ?_
      refine z_iaload dX2_withKey_16 hf fun x2 hf => ?_
      refine z_goto 21 dX2_withKey_17 (by decide) ?_
      exact z_iret dX2_withKey_21 rfl (by cases hf; rfl)
set_option maxRecDepth 4000 in
theorem zl_X2_times_5 {Γ : zG} {N d : Nat} {h0 : zH} (hd : 11 ≤ d) {v0 : Nat} {v1 : Int32} {v2 : Int32} {k1 : Int32 → zH → Option (Int32 × zH)} {w : Int32 × zH}  (hk1 : ∀ (v3 : Int32) (h : zH), k1 v3 h = some w → Z Γ m_X2_times d h0 (zoI w) 34 [(0, .ref v0), (3, .int v3)] [] h) : ∀ (n : Nat) (v3 : Int32) (v4 : Int32) (h : zH), f_X2_times_l5 N v0 v1 v2 k1 n v3 v4 h = some w → Z Γ m_X2_times d h0 (zoI w) 5 [(0, .ref v0), (1, .int v1), (2, .int v2), (3, .int v3), (4, .int v4)] [] h := by
  intro n
  induction n with
  | zero => intro v3 v4 h hf; cases hf
  | succ n ih =>
    intro v3 v4 h hf
    rw [f_X2_times_l5] at hf
    refine z_iload 4 dX2_times_5 rfl ?_
    refine z_if_le 34 dX2_times_7 (by decide) hf (fun hf => ?_) (fun hf => ?_)
    · exact Z.sub [0, 3] rfl (hk1 v3 h hf)
    · refine z_aload_n 0 dX2_times_10 rfl rfl ?_
      refine z_iload_n 3 dX2_times_11 rfl rfl ?_
      refine z_aload_n 0 dX2_times_12 rfl rfl ?_
      refine z_iload_n 2 dX2_times_13 rfl rfl ?_
      refine z_aload_n 0 dX2_times_14 rfl rfl ?_
      refine z_iload_n 1 dX2_times_15 rfl rfl ?_
      refine z_iload 4 dX2_times_16 rfl ?_
      refine z_cV_i (d' := d - 1) (As := [.int v1, .int v4]) (rest := [.int v2, .ref v0, .int v3, .ref v0]) dX2_times_18 lk_X2_24 rfl hf (fun w1 e1 => zc_X2_goal (by omega) e1) (by omega) rfl rfl (Nat.le_of_ble_eq_true rfl) fun y1 hf => ?_
      refine z_cV_i (d' := d - 1) (As := [.int v2, .int y1.1]) (rest := [.int v3, .ref v0]) dX2_times_21 lk_X2_24 rfl hf (fun w1 e1 => zc_X2_goal (by omega) e1) (by omega) rfl rfl (Nat.le_of_ble_eq_true rfl) fun y2 hf => ?_
      refine z_cV_i (d' := d - 1) (As := [.int v3, .int y2.1]) (rest := []) dX2_times_24 lk_X2_28 rfl hf (fun w1 e1 => zc_X2_longerKey (by omega) e1) (by omega) rfl rfl (Nat.le_of_ble_eq_true rfl) fun y3 hf => ?_
      refine z_istore_n [(3, .int y3.1), (0, .ref v0), (1, .int v1), (2, .int v2), (4, .int v4)] dX2_times_27 rfl (by decide) rfl ?_
      refine z_iinc (v4 + (-1 : Int32)) 4 [(4, .int (v4 + (-1 : Int32))), (3, .int y3.1), (0, .ref v0), (1, .int v1), (2, .int v2)] dX2_times_28 rfl rfl (by decide) rfl ?_
      refine z_goto 5 dX2_times_31 (by decide) ?_
      exact Z.sub [2, 3, 4, 1, 0] rfl (ih y3.1 (v4 + (-1 : Int32)) y3.2 hf)
set_option maxRecDepth 4000 in
theorem zc_X2_times {Γ : zG} {N d : Nat} (hd : 11 ≤ d) {a : Nat} {p1 : Int32} {p2 : Int32} {h : zH} {w : Int32 × zH} (hf : f_X2_times N a p1 p2 h = some w) : Zm Γ m_X2_times d [.ref a, .int p1, .int p2] h (zoI w) := by
  unfold f_X2_times at hf
  refine z_meth rfl (plainFor_of_name wpl_X2) (by simp [lg_sl, Value.category, zml, m_X2_times]) ?_
  refine z_iconst (0 : Int32) dX2_times_0 (by decide) ?_
  refine z_istore_n [(3, .int (0 : Int32)), (0, .ref a), (1, .int p1), (2, .int p2)] dX2_times_1 rfl (by decide) rfl ?_
  refine z_iconst (4 : Int32) dX2_times_2 (by decide) ?_
  refine z_istore [(4, .int (4 : Int32)), (3, .int (0 : Int32)), (0, .ref a), (1, .int p1), (2, .int p2)] dX2_times_3 (by decide) rfl ?_
  refine Z.sub [2, 3, 4, 1, 0] rfl (zl_X2_times_5 hd (fun u4 h5 hf => ?_) N (0 : Int32) (4 : Int32) h hf)
  · refine z_aload_n 0 dX2_times_34 rfl rfl ?_
    refine z_iload_n 1 dX2_times_35 rfl rfl ?_
    refine z_cV_i (d' := d - 1) (As := [.int u4]) (rest := []) dX2_times_36 lk_X2_31 rfl hf (fun w1 e1 => zc_X2_withKey (by omega) e1) (by omega) rfl rfl (Nat.le_of_ble_eq_true rfl) fun y6 hf => ?_
    exact z_iret dX2_times_39 rfl (by cases hf; rfl)
set_option maxRecDepth 4000 in
theorem zl_X2_period_4 {Γ : zG} {N d : Nat} {h0 : zH} (hd : 12 ≤ d) {v0 : Nat} {v1 : Int32}  {w : Int32 × zH}   : ∀ (n : Nat) (v2 : Int32) (v3 : Int32) (h : zH), f_X2_period_l4 N v0 v1 n v2 v3 h = some w → Z Γ m_X2_period d h0 (zoI w) 4 [(0, .ref v0), (1, .int v1), (2, .int v2), (3, .int v3)] [] h := by
  intro n
  induction n with
  | zero => intro v2 v3 h hf; cases hf
  | succ n ih =>
    intro v2 v3 h hf
    rw [f_X2_period_l4] at hf
    refine z_iload_n 2 dX2_period_4 rfl rfl ?_
    refine z_if_eq 27 dX2_period_5 (by decide) hf (fun hf => ?_) (fun hf => ?_)
    · refine z_iload_n 3 dX2_period_27 rfl rfl ?_
      exact z_iret dX2_period_28 rfl (by cases hf; rfl)
    · refine z_iload_n 3 dX2_period_8 rfl rfl ?_
      refine z_bipush (120 : Int32) dX2_period_9 (by decide) ?_
      refine z_icmp_ge 27 dX2_period_11 (by decide) hf (fun hf => ?_) (fun hf => ?_)
      · refine z_iload_n 3 dX2_period_27 rfl rfl ?_
        exact z_iret dX2_period_28 rfl (by cases hf; rfl)
      · refine z_aload_n 0 dX2_period_14 rfl rfl ?_
        refine z_iload_n 2 dX2_period_15 rfl rfl ?_
        refine z_iload_n 1 dX2_period_16 rfl rfl ?_
        refine z_cV_i (d' := d - 1) (As := [.int v2, .int v1]) (rest := []) dX2_period_17 lk_X2_34 rfl hf (fun w1 e1 => zc_X2_times (by omega) e1) (by omega) rfl rfl (Nat.le_of_ble_eq_true rfl) fun y1 hf => ?_
        refine z_istore_n [(2, .int y1.1), (0, .ref v0), (1, .int v1), (3, .int v3)] dX2_period_20 rfl (by decide) rfl ?_
        refine z_iinc (v3 + (1 : Int32)) 3 [(3, .int (v3 + (1 : Int32))), (2, .int y1.1), (0, .ref v0), (1, .int v1)] dX2_period_21 rfl rfl (by decide) rfl ?_
        refine z_goto 4 dX2_period_24 (by decide) ?_
        exact Z.sub [2, 3, 1, 0] rfl (ih y1.1 (v3 + (1 : Int32)) y1.2 hf)
set_option maxRecDepth 4000 in
theorem zc_X2_period {Γ : zG} {N d : Nat} (hd : 12 ≤ d) {a : Nat} {p1 : Int32} {h : zH} {w : Int32 × zH} (hf : f_X2_period N a p1 h = some w) : Zm Γ m_X2_period d [.ref a, .int p1] h (zoI w) := by
  unfold f_X2_period at hf
  refine z_meth rfl (plainFor_of_name wpl_X2) (by simp [lg_sl, Value.category, zml, m_X2_period]) ?_
  refine z_iload_n 1 dX2_period_0 rfl rfl ?_
  refine z_istore_n [(2, .int p1), (0, .ref a), (1, .int p1)] dX2_period_1 rfl (by decide) rfl ?_
  refine z_iconst (1 : Int32) dX2_period_2 (by decide) ?_
  refine z_istore_n [(3, .int (1 : Int32)), (2, .int p1), (0, .ref a), (1, .int p1)] dX2_period_3 rfl (by decide) rfl ?_
  refine Z.sub [2, 3, 1, 0] rfl (zl_X2_period_4 hd  N p1 (1 : Int32) h hf)
set_option maxRecDepth 4000 in
theorem zc_J9_min_f86c9 {Γ : zG} {N d : Nat} (hd : 10 ≤ d) {p1 : Int64} {p2 : Int64} {h : zH} {w : Int64 × zH} (hf : f_J9_min_f86c9 N p1 p2 h = some w) : Zm Γ m_J9_min_f86c9 d [.long p1, .long p2] h (zoJ w) := by
  unfold f_J9_min_f86c9 at hf
  refine z_meth rfl (by decide +kernel) (by simp [lg_sl, Value.category, zml, m_J9_min_f86c9]) ?_
  refine z_lload_n 0 dJ9_min_f86c9_0 rfl rfl ?_
  refine z_lload_n 1 dJ9_min_f86c9_1 rfl rfl ?_
  refine z_lcmp dJ9_min_f86c9_2 ?_
  refine z_if_gt 10 dJ9_min_f86c9_3 (by decide) hf (fun hf => ?_) (fun hf => ?_)
  · refine z_lload_n 1 dJ9_min_f86c9_10 rfl rfl ?_
    exact z_lret dJ9_min_f86c9_11 rfl (by cases hf; rfl)
  · refine z_lload_n 0 dJ9_min_f86c9_6 rfl rfl ?_
    refine z_goto 11 dJ9_min_f86c9_7 (by decide) ?_
    exact z_lret dJ9_min_f86c9_11 rfl (by cases hf; rfl)
set_option maxRecDepth 4000 in
theorem zc_J9_max_f86c9 {Γ : zG} {N d : Nat} (hd : 10 ≤ d) {p1 : Int64} {p2 : Int64} {h : zH} {w : Int64 × zH} (hf : f_J9_max_f86c9 N p1 p2 h = some w) : Zm Γ m_J9_max_f86c9 d [.long p1, .long p2] h (zoJ w) := by
  unfold f_J9_max_f86c9 at hf
  refine z_meth rfl (by decide +kernel) (by simp [lg_sl, Value.category, zml, m_J9_max_f86c9]) ?_
  refine z_lload_n 0 dJ9_max_f86c9_0 rfl rfl ?_
  refine z_lload_n 1 dJ9_max_f86c9_1 rfl rfl ?_
  refine z_lcmp dJ9_max_f86c9_2 ?_
  refine z_if_lt 10 dJ9_max_f86c9_3 (by decide) hf (fun hf => ?_) (fun hf => ?_)
  · refine z_lload_n 1 dJ9_max_f86c9_10 rfl rfl ?_
    exact z_lret dJ9_max_f86c9_11 rfl (by cases hf; rfl)
  · refine z_lload_n 0 dJ9_max_f86c9_6 rfl rfl ?_
    refine z_goto 11 dJ9_max_f86c9_7 (by decide) ?_
    exact z_lret dJ9_max_f86c9_11 rfl (by cases hf; rfl)
set_option maxRecDepth 4000 in
theorem zj_X5_result_67 {Γ : zG} {N d : Nat} {h0 : zH} (hd : 11 ≤ d) {v5 : Int64}  {h : zH} {w : Int64 × zH} (hf : f_X5_result_j67 N v5  h = some w) : Z Γ m_X5_result d h0 (zoJ w) 67 [(5, .long v5)] [] h := by
  unfold f_X5_result_j67 at hf
  refine z_ldc2 (-1000000 : Int64) dX5_result_67 wk_X5_38 ?_
  refine z_ldc2 (1000000 : Int64) dX5_result_70 wk_X5_40 ?_
  refine z_lload 0 dX5_result_73 rfl ?_
  refine z_cS_j (d' := d - 1) (As := [.long (1000000 : Int64), .long v5]) (rest := [.long (-1000000 : Int64)]) dX5_result_75 lk_X5_29 hf (fun w1 e1 => zc_J9_min_f86c9 (by omega) e1) (by omega) rfl rfl (Nat.le_of_ble_eq_true rfl) fun y1 hf => ?_
  refine z_cS_j (d' := d - 1) (As := [.long (-1000000 : Int64), .long y1.1]) (rest := []) dX5_result_78 lk_X5_35 hf (fun w1 e1 => zc_J9_max_f86c9 (by omega) e1) (by omega) rfl rfl (Nat.le_of_ble_eq_true rfl) fun y2 hf => ?_
  exact z_lret dX5_result_81 rfl (by cases hf; rfl)
set_option maxRecDepth 4000 in
theorem zj_X5_result_65 {Γ : zG} {N d : Nat} {h0 : zH} (hd : 11 ≤ d)  {s0 : Int64} {h : zH} {w : Int64 × zH} (hf : f_X5_result_j65 N  s0 h = some w) : Z Γ m_X5_result d h0 (zoJ w) 65 [] [.long s0] h := by
  unfold f_X5_result_j65 at hf
  refine z_lstore [(5, .long s0)] dX5_result_65 (by decide) rfl ?_
  exact Z.sub [0] rfl (zj_X5_result_67 hd hf)
set_option maxRecDepth 4000 in
theorem zc_X5_result {Γ : zG} {N d : Nat} (hd : 11 ≤ d) {p1 : Int32} {p2 : Int64} {p3 : Int64} {h : zH} {w : Int64 × zH} (hf : f_X5_result N p1 p2 p3 h = some w) : Zm Γ m_X5_result d [.int p1, .long p2, .long p3] h (zoJ w) := by
  unfold f_X5_result at hf
  refine z_meth rfl (plainFor_of_name wpl_X5) (by simp [lg_sl, Value.category, zml, m_X5_result]) ?_
  refine z_iload_n 0 dX5_result_0 rfl rfl ?_
  by_cases c0 : p1 = (-7 : Int32)
  · rw [if_pos c0] at hf
    refine z_tableIn 44 dX5_result_1 (by rw [c0]; decide) (by rw [c0]; decide) (by rw [c0]; rfl) (by decide) ?_
    refine z_lload_n 1 dX5_result_44 rfl rfl ?_
    refine z_lload_n 2 dX5_result_45 rfl rfl ?_
    refine z_lmul dX5_result_46 ?_
    refine z_lstore [(5, .long (p2 * p3)), (0, .int p1), (1, .long p2), (3, .long p3)] dX5_result_47 (by decide) rfl ?_
    refine z_goto 67 dX5_result_49 (by decide) ?_
    exact Z.sub [0] rfl (zj_X5_result_67 hd hf)
  · rw [if_neg c0] at hf
    by_cases c1 : p1 = (-6 : Int32)
    · rw [if_pos c1] at hf
      refine z_tableIn 36 dX5_result_1 (by rw [c1]; decide) (by rw [c1]; decide) (by rw [c1]; rfl) (by decide) ?_
      refine z_lload_n 1 dX5_result_36 rfl rfl ?_
      refine z_lload_n 2 dX5_result_37 rfl rfl ?_
      refine z_lsub dX5_result_38 ?_
      refine z_lstore [(5, .long (p2 - p3)), (0, .int p1), (1, .long p2), (3, .long p3)] dX5_result_39 (by decide) rfl ?_
      refine z_goto 67 dX5_result_41 (by decide) ?_
      exact Z.sub [0] rfl (zj_X5_result_67 hd hf)
    · rw [if_neg c1] at hf
      by_cases c2 : p1 = (-5 : Int32)
      · rw [if_pos c2] at hf
        refine z_tableIn 28 dX5_result_1 (by rw [c2]; decide) (by rw [c2]; decide) (by rw [c2]; rfl) (by decide) ?_
        refine z_lload_n 1 dX5_result_28 rfl rfl ?_
        refine z_lload_n 2 dX5_result_29 rfl rfl ?_
        refine z_ladd dX5_result_30 ?_
        refine z_lstore [(5, .long (p2 + p3)), (0, .int p1), (1, .long p2), (3, .long p3)] dX5_result_31 (by decide) rfl ?_
        refine z_goto 67 dX5_result_33 (by decide) ?_
        exact Z.sub [0] rfl (zj_X5_result_67 hd hf)
      · rw [if_neg c2] at hf
        refine z_tableOut 52 dX5_result_1 (by have q := z_sw_out (x := p1) (lo := (-7 : Int)) (n := 3) (by decide) (by decide) (lt_s (i := 2) (lt_s (i := 1) (lt_s (i := 0) lt_0 (fun e => c0 (e.trans (by decide)))) (fun e => c1 (e.trans (by decide)))) (fun e => c2 (e.trans (by decide)))); omega) (by decide) ?_
        refine z_lload_n 2 dX5_result_52 rfl rfl ?_
        refine z_lconst (0 : Int64) dX5_result_53 (by decide) ?_
        refine z_lcmp dX5_result_54 ?_
        refine z_if_ne 62 dX5_result_55 (by decide) hf (fun hf => ?_) (fun hf => ?_)
        · refine z_lconst (0 : Int64) dX5_result_58 (by decide) ?_
          refine z_goto 65 dX5_result_59 (by decide) ?_
          exact Z.sub [] rfl (zj_X5_result_65 hd hf)
        · refine z_lload_n 1 dX5_result_62 rfl rfl ?_
          refine z_lload_n 2 dX5_result_63 rfl rfl ?_
          refine z_ldiv dX5_result_64 hf fun x3 hf => ?_
          exact Z.sub [] rfl (zj_X5_result_65 hd hf)
set_option maxRecDepth 4000 in
theorem zc_X5_operand {Γ : zG} {N d : Nat} (hd : 10 ≤ d) {p1 : Int32} {p2 : Int32} {p3 : Int32} {p4 : Int32} {p5 : Int32} {h : zH} {w : Int32 × zH} (hf : f_X5_operand N p1 p2 p3 p4 p5 h = some w) : Zm Γ m_X5_operand d [.int p1, .int p2, .int p3, .int p4, .int p5] h (zoI w) := by
  unfold f_X5_operand at hf
  refine z_meth rfl (plainFor_of_name wpl_X5) (by simp [lg_sl, Value.category, zml, m_X5_operand]) ?_
  refine z_iload_n 0 dX5_operand_0 rfl rfl ?_
  by_cases c0 : p1 = (-4 : Int32)
  · rw [if_pos c0] at hf
    refine z_tableIn 38 dX5_operand_1 (by rw [c0]; decide) (by rw [c0]; decide) (by rw [c0]; rfl) (by decide) ?_
    refine z_iload 4 dX5_operand_38 rfl ?_
    exact z_iret dX5_operand_40 rfl (by cases hf; rfl)
  · rw [if_neg c0] at hf
    by_cases c1 : p1 = (-3 : Int32)
    · rw [if_pos c1] at hf
      refine z_tableIn 36 dX5_operand_1 (by rw [c1]; decide) (by rw [c1]; decide) (by rw [c1]; rfl) (by decide) ?_
      refine z_iload_n 3 dX5_operand_36 rfl rfl ?_
      exact z_iret dX5_operand_37 rfl (by cases hf; rfl)
    · rw [if_neg c1] at hf
      by_cases c2 : p1 = (-2 : Int32)
      · rw [if_pos c2] at hf
        refine z_tableIn 34 dX5_operand_1 (by rw [c2]; decide) (by rw [c2]; decide) (by rw [c2]; rfl) (by decide) ?_
        refine z_iload_n 2 dX5_operand_34 rfl rfl ?_
        exact z_iret dX5_operand_35 rfl (by cases hf; rfl)
      · rw [if_neg c2] at hf
        by_cases c3 : p1 = (-1 : Int32)
        · rw [if_pos c3] at hf
          refine z_tableIn 32 dX5_operand_1 (by rw [c3]; decide) (by rw [c3]; decide) (by rw [c3]; rfl) (by decide) ?_
          refine z_iload_n 1 dX5_operand_32 rfl rfl ?_
          exact z_iret dX5_operand_33 rfl (by cases hf; rfl)
        · rw [if_neg c3] at hf
          refine z_tableOut 41 dX5_operand_1 (by have q := z_sw_out (x := p1) (lo := (-4 : Int)) (n := 4) (by decide) (by decide) (lt_s (i := 3) (lt_s (i := 2) (lt_s (i := 1) (lt_s (i := 0) lt_0 (fun e => c0 (e.trans (by decide)))) (fun e => c1 (e.trans (by decide)))) (fun e => c2 (e.trans (by decide)))) (fun e => c3 (e.trans (by decide)))); omega) (by decide) ?_
          refine z_iload_n 0 dX5_operand_41 rfl rfl ?_
          exact z_iret dX5_operand_42 rfl (by cases hf; rfl)
set_option maxRecDepth 4000 in
theorem zl_X5_price_6 {Γ : zG} {N d : Nat} {h0 : zH} (hd : 12 ≤ d) {v0 : Nat} {v1 : Int32} {v2 : Int32} {v3 : Int32} {v4 : Int32} {k1 : zH → Option (Int32 × zH)} {w : Int32 × zH}  (hk1 : ∀ (h : zH), k1 h = some w → Z Γ m_X5_price d h0 (zoI w) 115 [(0, .ref v0)] [] h) : ∀ (n : Nat) (v5 : Int32) (v6 : Int32) (h : zH), f_X5_price_l6 N v0 v1 v2 v3 v4 k1 n v5 v6 h = some w → Z Γ m_X5_price d h0 (zoI w) 6 [(0, .ref v0), (1, .int v1), (2, .int v2), (3, .int v3), (4, .int v4), (5, .int v5), (6, .int v6)] [] h := by
  intro n
  induction n with
  | zero => intro v5 v6 h hf; cases hf
  | succ n ih =>
    intro v5 v6 h hf
    rw [f_X5_price_l6] at hf
    refine z_iload 6 dX5_price_6 rfl ?_
    refine z_aload_n 0 dX5_price_8 rfl rfl ?_
    refine z_getA dX5_price_9 zc5 (by decide) wf_X5_9 hf fun x1 hf => ?_
    refine z_alen dX5_price_12 hf fun x2 hf => ?_
    refine z_icmp_ge 115 dX5_price_13 (by decide) hf (fun hf => ?_) (fun hf => ?_)
    · exact Z.sub [0] rfl (hk1 h hf)
    · refine z_aload_n 0 dX5_price_16 rfl rfl ?_
      refine z_getA dX5_price_17 zc5 (by decide) wf_X5_9 hf fun x3 hf => ?_
      refine z_iload 6 dX5_price_20 rfl ?_
      refine z_iaload dX5_price_22 hf fun x4 hf => ?_
      refine z_istore [(7, .int x4), (0, .ref v0), (1, .int v1), (2, .int v2), (3, .int v3), (4, .int v4), (5, .int v5), (6, .int v6)] dX5_price_23 (by decide) rfl ?_
      refine z_iload 0 dX5_price_25 rfl ?_
      refine z_bipush (-5 : Int32) dX5_price_27 (by decide) ?_
      refine zjn_elim (P := fun (j109 : Int32 → Int32 → zH → Option (Int32 × zH)) => ∀ (v5 : Int32) (v6 : Int32) (h : zH), j109 v5 v6 h = some w → Z Γ m_X5_price d h0 (zoI w) 109 [(0, .ref v0), (1, .int v1), (2, .int v2), (3, .int v3), (4, .int v4), (5, .int v5), (6, .int v6)] [] h) hf (fun v5 v6 h hf => ?_) (fun j109 hj109 hf => ?_)
      · refine z_iinc (v6 + (1 : Int32)) 6 [(6, .int (v6 + (1 : Int32))), (0, .ref v0), (1, .int v1), (2, .int v2), (3, .int v3), (4, .int v4), (5, .int v5)] dX5_price_109 rfl rfl (by decide) rfl ?_
        refine z_goto 6 dX5_price_112 (by decide) ?_
        exact Z.sub [1, 2, 3, 4, 5, 6, 0] rfl (ih v5 (v6 + (1 : Int32)) h hf)
      · refine z_icmp_gt 81 dX5_price_29 (by decide) hf (fun hf => ?_) (fun hf => ?_)
        · refine z_iload 6 dX5_price_81 rfl ?_
          refine z_bipush (11 : Int32) dX5_price_83 (by decide) ?_
          refine z_icmp_ge 109 dX5_price_85 (by decide) hf (fun hf => ?_) (fun hf => ?_)
          · exact Z.sub [1, 2, 3, 4, 5, 6, 7] rfl (hj109 v5 v6 h hf)
          · refine z_aload_n 1 dX5_price_88 rfl rfl ?_
            refine z_getA dX5_price_89 zc5 (by decide) wf_X5_15 hf fun x5 hf => ?_
            refine z_iload 6 dX5_price_92 rfl ?_
            refine z_iload 0 dX5_price_94 rfl ?_
            refine z_iload_n 2 dX5_price_96 rfl rfl ?_
            refine z_iload_n 3 dX5_price_97 rfl rfl ?_
            refine z_iload_n 4 dX5_price_98 rfl rfl ?_
            refine z_iload 5 dX5_price_99 rfl ?_
            refine z_cS_i (d' := d - 1) (As := [.int x4, .int v1, .int v2, .int v3, .int v4]) (rest := [.int v5, .ref x5]) dX5_price_101 lk_X5_23 hf (fun w1 e1 => zc_X5_operand (by omega) e1) (by omega) rfl rfl (Nat.le_of_ble_eq_true rfl) fun y6 hf => ?_
            refine z_i2l dX5_price_104 ?_
            refine z_lastore dX5_price_105 hf fun h7 hf => ?_
            refine z_iinc (v5 + (1 : Int32)) 6 [(5, .int (v5 + (1 : Int32))), (7, .int x4), (0, .ref v0), (1, .int v1), (2, .int v2), (3, .int v3), (4, .int v4), (6, .int v6)] dX5_price_106 rfl rfl (by decide) rfl ?_
            exact Z.sub [2, 3, 4, 5, 6, 0, 7] rfl (hj109 (v5 + (1 : Int32)) v6 h7 hf)
        · refine z_iload 6 dX5_price_32 rfl ?_
          refine z_iconst (2 : Int32) dX5_price_34 (by decide) ?_
          refine z_icmp_lt 109 dX5_price_35 (by decide) hf (fun hf => ?_) (fun hf => ?_)
          · exact Z.sub [1, 2, 3, 4, 5, 6, 7] rfl (hj109 v5 v6 h hf)
          · refine z_iload 6 dX5_price_38 rfl ?_
            refine z_bipush (11 : Int32) dX5_price_40 (by decide) ?_
            refine z_icmp_gt 109 dX5_price_42 (by decide) hf (fun hf => ?_) (fun hf => ?_)
            · exact Z.sub [1, 2, 3, 4, 5, 6, 7] rfl (hj109 v5 v6 h hf)
            · refine z_iinc (v5 + (-1 : Int32)) 6 [(5, .int (v5 + (-1 : Int32))), (7, .int x4), (0, .ref v0), (1, .int v1), (2, .int v2), (3, .int v3), (4, .int v4), (6, .int v6)] dX5_price_45 rfl rfl (by decide) rfl ?_
              refine z_aload_n 2 dX5_price_48 rfl rfl ?_
              refine z_getA dX5_price_49 zc5 (by decide) wf_X5_15 hf fun x8 hf => ?_
              refine z_iload 0 dX5_price_52 rfl ?_
              refine z_iconst (1 : Int32) dX5_price_54 (by decide) ?_
              refine z_isub dX5_price_55 ?_
              refine z_iload 1 dX5_price_56 rfl ?_
              refine z_aload_n 2 dX5_price_58 rfl rfl ?_
              refine z_getA dX5_price_59 zc5 (by decide) wf_X5_15 hf fun x9 hf => ?_
              refine z_iload 0 dX5_price_62 rfl ?_
              refine z_iconst (1 : Int32) dX5_price_64 (by decide) ?_
              refine z_isub dX5_price_65 ?_
              refine z_laload dX5_price_66 hf fun x10 hf => ?_
              refine z_aload_n 2 dX5_price_67 rfl rfl ?_
              refine z_getA dX5_price_68 zc5 (by decide) wf_X5_15 hf fun x11 hf => ?_
              refine z_iload 0 dX5_price_71 rfl ?_
              refine z_laload dX5_price_73 hf fun x12 hf => ?_
              refine z_cS_j (d' := d - 1) (As := [.int x4, .long x10, .long x12]) (rest := [.int ((v5 + (-1 : Int32)) - (1 : Int32)), .ref x8]) dX5_price_74 lk_X5_19 hf (fun w1 e1 => zc_X5_result (by omega) e1) (by omega) rfl rfl (Nat.le_of_ble_eq_true rfl) fun y13 hf => ?_
              refine z_lastore dX5_price_77 hf fun h14 hf => ?_
              refine z_goto 109 dX5_price_78 (by decide) ?_
              exact Z.sub [2, 3, 4, 5, 6, 0, 7] rfl (hj109 (v5 + (-1 : Int32)) v6 h14 hf)
set_option maxRecDepth 4000 in
theorem zc_X5_price {Γ : zG} {N d : Nat} (hd : 12 ≤ d) {a : Nat} {p1 : Int32} {p2 : Int32} {p3 : Int32} {p4 : Int32} {h : zH} {w : Int32 × zH} (hf : f_X5_price N a p1 p2 p3 p4 h = some w) : Zm Γ m_X5_price d [.ref a, .int p1, .int p2, .int p3, .int p4] h (zoI w) := by
  unfold f_X5_price at hf
  refine z_meth rfl (plainFor_of_name wpl_X5) (by simp [lg_sl, Value.category, zml, m_X5_price]) ?_
  refine z_iconst (0 : Int32) dX5_price_0 (by decide) ?_
  refine z_istore [(5, .int (0 : Int32)), (0, .ref a), (1, .int p1), (2, .int p2), (3, .int p3), (4, .int p4)] dX5_price_1 (by decide) rfl ?_
  refine z_iconst (0 : Int32) dX5_price_3 (by decide) ?_
  refine z_istore [(6, .int (0 : Int32)), (5, .int (0 : Int32)), (0, .ref a), (1, .int p1), (2, .int p2), (3, .int p3), (4, .int p4)] dX5_price_4 (by decide) rfl ?_
  refine Z.sub [2, 3, 4, 5, 6, 1, 0] rfl (zl_X5_price_6 hd (fun h15 hf => ?_) N (0 : Int32) (0 : Int32) h hf)
  · refine z_lconst (0 : Int64) dX5_price_115 (by decide) ?_
    refine z_ldc2 (9999 : Int64) dX5_price_116 wk_X5_27 ?_
    refine z_aload_n 0 dX5_price_119 rfl rfl ?_
    refine z_getA dX5_price_120 zc5 (by decide) wf_X5_15 hf fun x16 hf => ?_
    refine z_iconst (0 : Int32) dX5_price_123 (by decide) ?_
    refine z_laload dX5_price_124 hf fun x17 hf => ?_
    refine z_cS_j (d' := d - 1) (As := [.long (9999 : Int64), .long x17]) (rest := [.long (0 : Int64)]) dX5_price_125 lk_X5_29 hf (fun w1 e1 => zc_J9_min_f86c9 (by omega) e1) (by omega) rfl rfl (Nat.le_of_ble_eq_true rfl) fun y18 hf => ?_
    refine z_cS_j (d' := d - 1) (As := [.long (0 : Int64), .long y18.1]) (rest := []) dX5_price_128 lk_X5_35 hf (fun w1 e1 => zc_J9_max_f86c9 (by omega) e1) (by omega) rfl rfl (Nat.le_of_ble_eq_true rfl) fun y19 hf => ?_
    refine z_l2i dX5_price_131 ?_
    exact z_iret dX5_price_132 rfl (by cases hf; rfl)
set_option maxRecDepth 4000 in
theorem zc_X0_priceOf {Γ : zG} {N d : Nat} (hd : 13 ≤ d) {a : Nat} {p1 : Nat} {p2 : Int32} {h : zH} {w : Int32 × zH} (hf : f_X0_priceOf N a p1 p2 h = some w) : Zm Γ m_X0_priceOf d [.ref a, .ref p1, .int p2] h (zoI w) := by
  unfold f_X0_priceOf at hf
  refine z_meth rfl (plainFor_of_name wpl_X0) (by simp [lg_sl, Value.category, zml, m_X0_priceOf]) ?_
  refine z_aload_n 0 dX0_priceOf_0 rfl rfl ?_
  refine z_getA dX0_priceOf_1 zc0 (by decide) wf_X0_9 hf fun x1 hf => ?_
  refine z_aload_n 1 dX0_priceOf_4 rfl rfl ?_
  refine z_getA dX0_priceOf_5 zc1 (by decide) wf_X0_114 hf fun x2 hf => ?_
  refine z_iload_n 2 dX0_priceOf_8 rfl rfl ?_
  refine z_cV_i (d' := d - 1) (As := [.int p2]) (rest := [.ref x1]) dX0_priceOf_9 lk_X0_94 rfl hf (fun w1 e1 => zc_X6_at (by omega) e1) (by omega) rfl rfl (Nat.le_of_ble_eq_true rfl) fun y3 hf => ?_
  refine z_cV_i (d' := d - 1) (As := [.int y3.1]) (rest := []) dX0_priceOf_12 lk_X0_117 rfl hf (fun w1 e1 => zc_X2_period (by omega) e1) (by omega) rfl rfl (Nat.le_of_ble_eq_true rfl) fun y4 hf => ?_
  refine z_istore_n [(3, .int y4.1), (0, .ref a), (1, .ref p1), (2, .int p2)] dX0_priceOf_15 rfl (by decide) rfl ?_
  refine z_aload_n 1 dX0_priceOf_16 rfl rfl ?_
  refine z_getA dX0_priceOf_17 zc0 (by decide) wf_X0_49 hf fun x5 hf => ?_
  refine z_aload_n 2 dX0_priceOf_20 rfl rfl ?_
  refine z_getA dX0_priceOf_21 zc1 (by decide) wf_X0_120 hf fun x6 hf => ?_
  refine z_iload_n 3 dX0_priceOf_24 rfl rfl ?_
  refine z_cV_i (d' := d - 1) (As := [.int p2]) (rest := [.ref x5]) dX0_priceOf_25 lk_X0_94 rfl hf (fun w1 e1 => zc_X6_at (by omega) e1) (by omega) rfl rfl (Nat.le_of_ble_eq_true rfl) fun y7 hf => ?_
  refine z_iload_n 0 dX0_priceOf_28 rfl rfl ?_
  refine z_aload_n 1 dX0_priceOf_29 rfl rfl ?_
  refine z_getA dX0_priceOf_30 zc0 (by decide) wf_X0_34 hf fun x8 hf => ?_
  refine z_cV_i (d' := d - 1) (As := []) (rest := [.int y4.1, .int y7.1, .ref x5]) dX0_priceOf_33 lk_X0_104 rfl hf (fun w1 e1 => zc_X6_size (by omega) e1) (by omega) rfl rfl (Nat.le_of_ble_eq_true rfl) fun y9 hf => ?_
  refine z_aload_n 1 dX0_priceOf_36 rfl rfl ?_
  refine z_getI dX0_priceOf_37 zc0 (by decide) wf_X0_81 hf fun x10 hf => ?_
  refine z_cV_i (d' := d - 1) (As := [.int y7.1, .int y4.1, .int y9.1, .int x10]) (rest := []) dX0_priceOf_40 lk_X0_123 rfl hf (fun w1 e1 => zc_X5_price (by omega) e1) (by omega) rfl rfl (Nat.le_of_ble_eq_true rfl) fun y11 hf => ?_
  exact z_iret dX0_priceOf_43 rfl (by cases hf; rfl)
set_option maxRecDepth 4000 in
theorem zc_X8_card {Γ : zG} {N d : Nat} (hd : 14 ≤ d) {a : Nat} {p1 : Int32} {p2 : Int32} {p3 : Int32} {h : zH} {w : (Int32 ⊕ Nat) × zH} (hf : f_X8_card N a p1 p2 p3 h = some w) : Zm Γ m_X8_card d [.ref a, .int p1, .int p2, .int p3] h (zoTI w) := by
  unfold f_X8_card at hf
  refine z_meth rfl (plainFor_of_name wpl_X8) (by simp [lg_sl, Value.category, zml, m_X8_card]) ?_
  refine z_aload_n 0 dX8_card_0 rfl rfl ?_
  refine z_iload_n 1 dX8_card_1 rfl rfl ?_
  refine z_cV_ta (d' := d - 1) (As := [.int p1]) (rest := []) dX8_card_2 lk_X8_119 rfl hf (fun w1 e1 => zc_X8_existing (by omega) e1) (by omega) rfl rfl (Nat.le_of_ble_eq_true rfl) (fun y1 x2 hf => ?_) (fun y1 k3 hf => ?_)
  · refine z_astore [(4, .ref x2), (0, .ref a), (1, .int p1), (2, .int p2), (3, .int p3)] dX8_card_5 (by decide) rfl ?_
    refine z_aload 0 dX8_card_7 rfl ?_
    refine z_getA dX8_card_9 zc1 (by decide) wf_X8_128 hf fun x4 hf => ?_
    refine z_iload_n 3 dX8_card_12 rfl rfl ?_
    refine z_cV_i (d' := d - 1) (As := [.int p2]) (rest := []) dX8_card_13 lk_X8_134 rfl hf (fun w1 e1 => zc_X6_holds (by omega) e1) (by omega) rfl rfl (Nat.le_of_ble_eq_true rfl) fun y5 hf => ?_
    refine z_if_ne 27 dX8_card_16 (by decide) hf (fun hf => ?_) (fun hf => ?_)
    · exact z_throw 3 (by decide) dX8_card_19 dX8_card_22 dX8_card_23 dX8_card_26 wc_X8_138 wi_x3 wx_X8_140a wx_X8_140b (by omega) rfl (Nat.le_of_ble_eq_true rfl) (by cases hf; rfl)
    · refine z_iload_n 4 dX8_card_27 rfl rfl ?_
      by_cases c0 : p3 = (0 : Int32)
      · rw [if_pos c0] at hf
        refine z_tableIn 56 dX8_card_28 (by rw [c0]; decide) (by rw [c0]; decide) (by rw [c0]; rfl) (by decide) ?_
        refine z_aload_n 1 dX8_card_56 rfl rfl ?_
        refine z_aload 0 dX8_card_57 rfl ?_
        refine z_getA dX8_card_59 zc1 (by decide) wf_X8_128 hf fun x6 hf => ?_
        refine z_iload_n 3 dX8_card_62 rfl rfl ?_
        refine z_cV_i (d' := d - 1) (As := [.int p2]) (rest := [.ref a]) dX8_card_63 lk_X8_141 rfl hf (fun w1 e1 => zc_X6_at (by omega) e1) (by omega) rfl rfl (Nat.le_of_ble_eq_true rfl) fun y7 hf => ?_
        refine z_cV_i (d' := d - 1) (As := [.int y7.1]) (rest := []) dX8_card_66 lk_X8_144 rfl hf (fun w1 e1 => zc_X8_numberOf (by omega) e1) (by omega) rfl rfl (Nat.le_of_ble_eq_true rfl) fun y8 hf => ?_
        exact z_iret dX8_card_69 rfl (by cases hf; rfl)
      · rw [if_neg c0] at hf
        by_cases c1 : p3 = (1 : Int32)
        · rw [if_pos c1] at hf
          refine z_tableIn 70 dX8_card_28 (by rw [c1]; decide) (by rw [c1]; decide) (by rw [c1]; rfl) (by decide) ?_
          refine z_aload 0 dX8_card_70 rfl ?_
          refine z_getA dX8_card_72 zc1 (by decide) wf_X8_147 hf fun x9 hf => ?_
          refine z_iload_n 3 dX8_card_75 rfl rfl ?_
          refine z_cV_i (d' := d - 1) (As := [.int p2]) (rest := []) dX8_card_76 lk_X8_141 rfl hf (fun w1 e1 => zc_X6_at (by omega) e1) (by omega) rfl rfl (Nat.le_of_ble_eq_true rfl) fun y10 hf => ?_
          exact z_iret dX8_card_79 rfl (by cases hf; rfl)
        · rw [if_neg c1] at hf
          by_cases c2 : p3 = (2 : Int32)
          · rw [if_pos c2] at hf
            refine z_tableIn 80 dX8_card_28 (by rw [c2]; decide) (by rw [c2]; decide) (by rw [c2]; rfl) (by decide) ?_
            refine z_aload_n 1 dX8_card_80 rfl rfl ?_
            refine z_getA dX8_card_81 zc8 (by decide) wf_X8_28 hf fun x11 hf => ?_
            refine z_aload 0 dX8_card_84 rfl ?_
            refine z_iload_n 3 dX8_card_86 rfl rfl ?_
            refine z_cV_i (d' := d - 1) (As := [.ref x2, .int p2]) (rest := []) dX8_card_87 lk_X8_150 rfl hf (fun w1 e1 => zc_X0_priceOf (by omega) e1) (by omega) rfl rfl (Nat.le_of_ble_eq_true rfl) fun y12 hf => ?_
            exact z_iret dX8_card_90 rfl (by cases hf; rfl)
          · rw [if_neg c2] at hf
            refine z_tableOut 91 dX8_card_28 (by have q := z_sw_out (x := p3) (lo := (0 : Int)) (n := 3) (by decide) (by decide) (lt_s (i := 2) (lt_s (i := 1) (lt_s (i := 0) lt_0 (fun e => c0 (e.trans (by decide)))) (fun e => c1 (e.trans (by decide)))) (fun e => c2 (e.trans (by decide)))); omega) (by decide) ?_
            exact z_throw 1 (by decide) dX8_card_91 dX8_card_94 dX8_card_95 dX8_card_98 wc_X8_62 wi_x1 wx_X8_64a wx_X8_64b (by omega) rfl (Nat.le_of_ble_eq_true rfl) (by cases hf; rfl)
  · exact zx_out rfl (by cases hf; rfl)
set_option maxRecDepth 4000 in
theorem zl_X8_withPlayer_6 {Γ : zG} {N d : Nat} {h0 : zH} (hd : 15 ≤ d) {v0 : Nat} {v3 : Int32} {k1 : Int64 → zH → Option ((Int64 ⊕ Nat) × zH)} {w : (Int64 ⊕ Nat) × zH}  (hk1 : ∀ (v4 : Int64) (h : zH), k1 v4 h = some w → Z Γ m_X8_withPlayer d h0 (zoTJ w) 35 [(0, .ref v0), (3, .int v3), (4, .long v4)] [] h) : ∀ (n : Nat) (v4 : Int64) (v6 : Int32) (h : zH), f_X8_withPlayer_l6 N v0 v3 k1 n v4 v6 h = some w → Z Γ m_X8_withPlayer d h0 (zoTJ w) 6 [(0, .ref v0), (3, .int v3), (4, .long v4), (6, .int v6)] [] h := by
  intro n
  induction n with
  | zero => intro v4 v6 h hf; cases hf
  | succ n ih =>
    intro v4 v6 h hf
    rw [f_X8_withPlayer_l6] at hf
    refine z_iload 3 dX8_withPlayer_6 rfl ?_
    refine z_iconst (2 : Int32) dX8_withPlayer_8 (by decide) ?_
    refine z_icmp_gt 35 dX8_withPlayer_9 (by decide) hf (fun hf => ?_) (fun hf => ?_)
    · exact Z.sub [0, 1, 2] rfl (hk1 v4 h hf)
    · refine z_ldc2 (31 : Int64) dX8_withPlayer_12 wk_X8_232 ?_
      refine z_lload 2 dX8_withPlayer_15 rfl ?_
      refine z_lmul dX8_withPlayer_17 ?_
      refine z_aload_n 0 dX8_withPlayer_18 rfl rfl ?_
      refine z_iload_n 1 dX8_withPlayer_19 rfl rfl ?_
      refine z_iload 3 dX8_withPlayer_20 rfl ?_
      refine z_cV_ti (d' := d - 1) (As := [.int v3, .int v6]) (rest := [.long ((31 : Int64) * v4)]) dX8_withPlayer_22 lk_X8_247 rfl hf (fun w1 e1 => zc_X8_player (by omega) e1) (by omega) rfl rfl (Nat.le_of_ble_eq_true rfl) (fun y1 x2 hf => ?_) (fun y1 k3 hf => ?_)
      · refine z_i2l dX8_withPlayer_25 ?_
        refine z_ladd dX8_withPlayer_26 ?_
        refine z_lstore [(4, .long (((31 : Int64) * v4) + x2.toInt64)), (0, .ref v0), (3, .int v3), (6, .int v6)] dX8_withPlayer_27 (by decide) rfl ?_
        refine z_iinc (v6 + (1 : Int32)) 3 [(6, .int (v6 + (1 : Int32))), (4, .long (((31 : Int64) * v4) + x2.toInt64)), (0, .ref v0), (3, .int v3)] dX8_withPlayer_29 rfl rfl (by decide) rfl ?_
        refine z_goto 6 dX8_withPlayer_32 (by decide) ?_
        exact Z.sub [2, 3, 1, 0] rfl (ih (((31 : Int64) * v4) + x2.toInt64) (v6 + (1 : Int32)) y1.2 hf)
      · exact zx_out rfl (by cases hf; rfl)
set_option maxRecDepth 4000 in
theorem zl_X8_withPlayer_56 {Γ : zG} {N d : Nat} {h0 : zH} (hd : 15 ≤ d) {v0 : Nat} {v3 : Int32} {v6 : Int32} {v7 : Int32} {k1 : Int64 → zH → Option ((Int64 ⊕ Nat) × zH)} {w : (Int64 ⊕ Nat) × zH}  (hk1 : ∀ (v4 : Int64) (h : zH), k1 v4 h = some w → Z Γ m_X8_withPlayer d h0 (zoTJ w) 87 [(0, .ref v0), (3, .int v3), (4, .long v4), (6, .int v6), (7, .int v7)] [] h) : ∀ (n : Nat) (v4 : Int64) (v8 : Int32) (h : zH), f_X8_withPlayer_l56 N v0 v3 v6 v7 k1 n v4 v8 h = some w → Z Γ m_X8_withPlayer d h0 (zoTJ w) 56 [(0, .ref v0), (3, .int v3), (4, .long v4), (6, .int v6), (7, .int v7), (8, .int v8)] [] h := by
  intro n
  induction n with
  | zero => intro v4 v8 h hf; cases hf
  | succ n ih =>
    intro v4 v8 h hf
    rw [f_X8_withPlayer_l56] at hf
    refine z_iload 5 dX8_withPlayer_56 rfl ?_
    refine z_iconst (2 : Int32) dX8_withPlayer_58 (by decide) ?_
    refine z_icmp_gt 87 dX8_withPlayer_59 (by decide) hf (fun hf => ?_) (fun hf => ?_)
    · exact Z.sub [0, 1, 2, 3, 4] rfl (hk1 v4 h hf)
    · refine z_ldc2 (31 : Int64) dX8_withPlayer_62 wk_X8_232 ?_
      refine z_lload 2 dX8_withPlayer_65 rfl ?_
      refine z_lmul dX8_withPlayer_67 ?_
      refine z_aload_n 0 dX8_withPlayer_68 rfl rfl ?_
      refine z_iload_n 1 dX8_withPlayer_69 rfl rfl ?_
      refine z_iload 4 dX8_withPlayer_70 rfl ?_
      refine z_iload 5 dX8_withPlayer_72 rfl ?_
      refine z_cV_ti (d' := d - 1) (As := [.int v3, .int v7, .int v8]) (rest := [.long ((31 : Int64) * v4)]) dX8_withPlayer_74 lk_X8_250 rfl hf (fun w1 e1 => zc_X8_card (by omega) e1) (by omega) rfl rfl (Nat.le_of_ble_eq_true rfl) (fun y9 x10 hf => ?_) (fun y9 k11 hf => ?_)
      · refine z_i2l dX8_withPlayer_77 ?_
        refine z_ladd dX8_withPlayer_78 ?_
        refine z_lstore [(4, .long (((31 : Int64) * v4) + x10.toInt64)), (0, .ref v0), (3, .int v3), (6, .int v6), (7, .int v7), (8, .int v8)] dX8_withPlayer_79 (by decide) rfl ?_
        refine z_iinc (v8 + (1 : Int32)) 5 [(8, .int (v8 + (1 : Int32))), (4, .long (((31 : Int64) * v4) + x10.toInt64)), (0, .ref v0), (3, .int v3), (6, .int v6), (7, .int v7)] dX8_withPlayer_81 rfl rfl (by decide) rfl ?_
        refine z_goto 56 dX8_withPlayer_84 (by decide) ?_
        exact Z.sub [2, 3, 1, 4, 5, 0] rfl (ih (((31 : Int64) * v4) + x10.toInt64) (v8 + (1 : Int32)) y9.2 hf)
      · exact zx_out rfl (by cases hf; rfl)
set_option maxRecDepth 4000 in
theorem zl_X8_withPlayer_46 {Γ : zG} {N d : Nat} {h0 : zH} (hd : 15 ≤ d) {v0 : Nat} {v3 : Int32} {v6 : Int32}  {w : (Int64 ⊕ Nat) × zH}   : ∀ (n : Nat) (v4 : Int64) (v7 : Int32) (h : zH), f_X8_withPlayer_l46 N v0 v3 v6 n v4 v7 h = some w → Z Γ m_X8_withPlayer d h0 (zoTJ w) 46 [(0, .ref v0), (3, .int v3), (4, .long v4), (6, .int v6), (7, .int v7)] [] h := by
  intro n
  induction n with
  | zero => intro v4 v7 h hf; cases hf
  | succ n ih =>
    intro v4 v7 h hf
    rw [f_X8_withPlayer_l46] at hf
    refine z_iload 4 dX8_withPlayer_46 rfl ?_
    refine z_iload 3 dX8_withPlayer_48 rfl ?_
    refine z_icmp_ge 93 dX8_withPlayer_50 (by decide) hf (fun hf => ?_) (fun hf => ?_)
    · refine z_lload 2 dX8_withPlayer_93 rfl ?_
      exact z_lret dX8_withPlayer_95 rfl (by cases hf; rfl)
    · refine z_iconst (0 : Int32) dX8_withPlayer_53 (by decide) ?_
      refine z_istore [(8, .int (0 : Int32)), (0, .ref v0), (3, .int v3), (4, .long v4), (6, .int v6), (7, .int v7)] dX8_withPlayer_54 (by decide) rfl ?_
      refine Z.sub [1, 2, 3, 4, 5, 0] rfl (zl_X8_withPlayer_56 hd (fun u12 h13 hf => ?_) N v4 (0 : Int32) h hf)
      · refine z_iinc (v7 + (1 : Int32)) 4 [(7, .int (v7 + (1 : Int32))), (0, .ref v0), (3, .int v3), (4, .long u12), (6, .int v6)] dX8_withPlayer_87 rfl rfl (by decide) rfl ?_
        refine z_goto 46 dX8_withPlayer_90 (by decide) ?_
        exact Z.sub [1, 2, 3, 4, 0] rfl (ih u12 (v7 + (1 : Int32)) h13 hf)
set_option maxRecDepth 4000 in
theorem zc_X8_withPlayer {Γ : zG} {N d : Nat} (hd : 15 ≤ d) {a : Nat} {p1 : Int64} {p2 : Int32} {h : zH} {w : (Int64 ⊕ Nat) × zH} (hf : f_X8_withPlayer N a p1 p2 h = some w) : Zm Γ m_X8_withPlayer d [.ref a, .long p1, .int p2] h (zoTJ w) := by
  unfold f_X8_withPlayer at hf
  refine z_meth rfl (plainFor_of_name wpl_X8) (by simp [lg_sl, Value.category, zml, m_X8_withPlayer]) ?_
  refine z_lload_n 1 dX8_withPlayer_0 rfl rfl ?_
  refine z_lstore [(4, .long p1), (0, .ref a), (1, .long p1), (3, .int p2)] dX8_withPlayer_1 (by decide) rfl ?_
  refine z_iconst (0 : Int32) dX8_withPlayer_3 (by decide) ?_
  refine z_istore [(6, .int (0 : Int32)), (4, .long p1), (0, .ref a), (1, .long p1), (3, .int p2)] dX8_withPlayer_4 (by decide) rfl ?_
  refine Z.sub [2, 4, 1, 0] rfl (zl_X8_withPlayer_6 hd (fun u4 h5 hf => ?_) N p1 (0 : Int32) h hf)
  · refine z_aload_n 0 dX8_withPlayer_35 rfl rfl ?_
    refine z_iload_n 1 dX8_withPlayer_36 rfl rfl ?_
    refine z_iconst (1 : Int32) dX8_withPlayer_37 (by decide) ?_
    refine z_cV_ti (d' := d - 1) (As := [.int p2, .int (1 : Int32)]) (rest := []) dX8_withPlayer_38 lk_X8_247 rfl hf (fun w1 e1 => zc_X8_player (by omega) e1) (by omega) rfl rfl (Nat.le_of_ble_eq_true rfl) (fun y6 x7 hf => ?_) (fun y6 k8 hf => ?_)
    · refine z_istore [(6, .int x7), (0, .ref a), (3, .int p2), (4, .long u4)] dX8_withPlayer_41 (by decide) rfl ?_
      refine z_iconst (0 : Int32) dX8_withPlayer_43 (by decide) ?_
      refine z_istore [(7, .int (0 : Int32)), (6, .int x7), (0, .ref a), (3, .int p2), (4, .long u4)] dX8_withPlayer_44 (by decide) rfl ?_
      refine Z.sub [2, 3, 4, 1, 0] rfl (zl_X8_withPlayer_46 hd  N u4 (0 : Int32) y6.2 hf)
    · exact zx_out rfl (by cases hf; rfl)
set_option maxRecDepth 4000 in
theorem zc_X8_bid {Γ : zG} {N d : Nat} (hd : 13 ≤ d) {a : Nat} {p1 : Int32} {p2 : Int32} {h : zH} {w : (Int32 ⊕ Nat) × zH} (hf : f_X8_bid N a p1 p2 h = some w) : Zm Γ m_X8_bid d [.ref a, .int p1, .int p2] h (zoTI w) := by
  unfold f_X8_bid at hf
  refine z_meth rfl (plainFor_of_name wpl_X8) (by simp [lg_sl, Value.category, zml, m_X8_bid]) ?_
  refine z_aload_n 0 dX8_bid_0 rfl rfl ?_
  refine z_getA dX8_bid_1 zc8 (by decide) wf_X8_28 hf fun x1 hf => ?_
  refine z_getA dX8_bid_4 zc0 (by decide) wf_X8_107 hf fun x2 hf => ?_
  refine z_iload_n 1 dX8_bid_7 rfl rfl ?_
  refine z_cV_i (d' := d - 1) (As := [.int p1]) (rest := []) dX8_bid_8 lk_X8_134 rfl hf (fun w1 e1 => zc_X6_holds (by omega) e1) (by omega) rfl rfl (Nat.le_of_ble_eq_true rfl) fun y3 hf => ?_
  refine z_if_ne 22 dX8_bid_11 (by decide) hf (fun hf => ?_) (fun hf => ?_)
  · exact z_throw 3 (by decide) dX8_bid_14 dX8_bid_17 dX8_bid_18 dX8_bid_21 wc_X8_138 wi_x3 wx_X8_140a wx_X8_140b (by omega) rfl (Nat.le_of_ble_eq_true rfl) (by cases hf; rfl)
  · refine z_iload_n 2 dX8_bid_22 rfl rfl ?_
    by_cases c0 : p2 = (0 : Int32)
    · rw [if_pos c0] at hf
      refine z_tableIn 48 dX8_bid_23 (by rw [c0]; decide) (by rw [c0]; decide) (by rw [c0]; rfl) (by decide) ?_
      refine z_aload_n 0 dX8_bid_48 rfl rfl ?_
      refine z_getA dX8_bid_49 zc8 (by decide) wf_X8_28 hf fun x4 hf => ?_
      refine z_getA dX8_bid_52 zc0 (by decide) wf_X8_154 hf fun x5 hf => ?_
      refine z_iload_n 1 dX8_bid_55 rfl rfl ?_
      refine z_cV_i (d' := d - 1) (As := [.int p1]) (rest := []) dX8_bid_56 lk_X8_141 rfl hf (fun w1 e1 => zc_X6_at (by omega) e1) (by omega) rfl rfl (Nat.le_of_ble_eq_true rfl) fun y6 hf => ?_
      exact z_iret dX8_bid_59 rfl (by cases hf; rfl)
    · rw [if_neg c0] at hf
      by_cases c1 : p2 = (1 : Int32)
      · rw [if_pos c1] at hf
        refine z_tableIn 60 dX8_bid_23 (by rw [c1]; decide) (by rw [c1]; decide) (by rw [c1]; rfl) (by decide) ?_
        refine z_aload_n 0 dX8_bid_60 rfl rfl ?_
        refine z_aload_n 0 dX8_bid_61 rfl rfl ?_
        refine z_getA dX8_bid_62 zc8 (by decide) wf_X8_28 hf fun x7 hf => ?_
        refine z_getA dX8_bid_65 zc0 (by decide) wf_X8_107 hf fun x8 hf => ?_
        refine z_iload_n 1 dX8_bid_68 rfl rfl ?_
        refine z_cV_i (d' := d - 1) (As := [.int p1]) (rest := [.ref a]) dX8_bid_69 lk_X8_141 rfl hf (fun w1 e1 => zc_X6_at (by omega) e1) (by omega) rfl rfl (Nat.le_of_ble_eq_true rfl) fun y9 hf => ?_
        refine z_cV_i (d' := d - 1) (As := [.int y9.1]) (rest := []) dX8_bid_72 lk_X8_144 rfl hf (fun w1 e1 => zc_X8_numberOf (by omega) e1) (by omega) rfl rfl (Nat.le_of_ble_eq_true rfl) fun y10 hf => ?_
        exact z_iret dX8_bid_75 rfl (by cases hf; rfl)
      · rw [if_neg c1] at hf
        by_cases c2 : p2 = (2 : Int32)
        · rw [if_pos c2] at hf
          refine z_tableIn 76 dX8_bid_23 (by rw [c2]; decide) (by rw [c2]; decide) (by rw [c2]; rfl) (by decide) ?_
          refine z_aload_n 0 dX8_bid_76 rfl rfl ?_
          refine z_getA dX8_bid_77 zc8 (by decide) wf_X8_28 hf fun x11 hf => ?_
          refine z_getA dX8_bid_80 zc0 (by decide) wf_X8_157 hf fun x12 hf => ?_
          refine z_iload_n 1 dX8_bid_83 rfl rfl ?_
          refine z_cV_i (d' := d - 1) (As := [.int p1]) (rest := []) dX8_bid_84 lk_X8_141 rfl hf (fun w1 e1 => zc_X6_at (by omega) e1) (by omega) rfl rfl (Nat.le_of_ble_eq_true rfl) fun y13 hf => ?_
          exact z_iret dX8_bid_87 rfl (by cases hf; rfl)
        · rw [if_neg c2] at hf
          refine z_tableOut 88 dX8_bid_23 (by have q := z_sw_out (x := p2) (lo := (0 : Int)) (n := 3) (by decide) (by decide) (lt_s (i := 2) (lt_s (i := 1) (lt_s (i := 0) lt_0 (fun e => c0 (e.trans (by decide)))) (fun e => c1 (e.trans (by decide)))) (fun e => c2 (e.trans (by decide)))); omega) (by decide) ?_
          exact z_throw 1 (by decide) dX8_bid_88 dX8_bid_91 dX8_bid_92 dX8_bid_95 wc_X8_62 wi_x1 wx_X8_64a wx_X8_64b (by omega) rfl (Nat.le_of_ble_eq_true rfl) (by cases hf; rfl)
set_option maxRecDepth 4000 in
theorem zl_X0_productOfBids_5 {Γ : zG} {N d : Nat} {h0 : zH} (hd : 12 ≤ d) {v0 : Nat} {v2 : Int32}  {w : Int32 × zH}   : ∀ (n : Nat) (v3 : Int32) (v4 : Int32) (h : zH), f_X0_productOfBids_l5 N v0 v2 n v3 v4 h = some w → Z Γ m_X0_productOfBids d h0 (zoI w) 5 [(0, .ref v0), (2, .int v2), (3, .int v3), (4, .int v4)] [] h := by
  intro n
  induction n with
  | zero => intro v3 v4 h hf; cases hf
  | succ n ih =>
    intro v3 v4 h hf
    rw [f_X0_productOfBids_l5] at hf
    refine z_iload 3 dX0_productOfBids_5 rfl ?_
    refine z_iload_n 1 dX0_productOfBids_7 rfl rfl ?_
    refine z_icmp_ge 35 dX0_productOfBids_8 (by decide) hf (fun hf => ?_) (fun hf => ?_)
    · refine z_iload_n 2 dX0_productOfBids_35 rfl rfl ?_
      exact z_iret dX0_productOfBids_36 rfl (by cases hf; rfl)
    · refine z_aload_n 0 dX0_productOfBids_11 rfl rfl ?_
      refine z_getA dX0_productOfBids_12 zc0 (by decide) wf_X0_9 hf fun x1 hf => ?_
      refine z_iload_n 2 dX0_productOfBids_15 rfl rfl ?_
      refine z_aload_n 0 dX0_productOfBids_16 rfl rfl ?_
      refine z_getA dX0_productOfBids_17 zc0 (by decide) wf_X0_34 hf fun x2 hf => ?_
      refine z_iload 3 dX0_productOfBids_20 rfl ?_
      refine z_cV_i (d' := d - 1) (As := [.int v4]) (rest := [.int v3, .ref x1]) dX0_productOfBids_22 lk_X0_94 rfl hf (fun w1 e1 => zc_X6_at (by omega) e1) (by omega) rfl rfl (Nat.le_of_ble_eq_true rfl) fun y3 hf => ?_
      refine z_cV_i (d' := d - 1) (As := [.int v3, .int y3.1]) (rest := []) dX0_productOfBids_25 lk_X0_98 rfl hf (fun w1 e1 => zc_X2_times (by omega) e1) (by omega) rfl rfl (Nat.le_of_ble_eq_true rfl) fun y4 hf => ?_
      refine z_istore_n [(3, .int y4.1), (0, .ref v0), (2, .int v2), (4, .int v4)] dX0_productOfBids_28 rfl (by decide) rfl ?_
      refine z_iinc (v4 + (1 : Int32)) 3 [(4, .int (v4 + (1 : Int32))), (3, .int y4.1), (0, .ref v0), (2, .int v2)] dX0_productOfBids_29 rfl rfl (by decide) rfl ?_
      refine z_goto 5 dX0_productOfBids_32 (by decide) ?_
      exact Z.sub [2, 3, 1, 0] rfl (ih y4.1 (v4 + (1 : Int32)) y4.2 hf)
set_option maxRecDepth 4000 in
theorem zc_X0_productOfBids {Γ : zG} {N d : Nat} (hd : 12 ≤ d) {a : Nat} {p1 : Int32} {p2 : Int32} {h : zH} {w : Int32 × zH} (hf : f_X0_productOfBids N a p1 p2 h = some w) : Zm Γ m_X0_productOfBids d [.ref a, .int p1, .int p2] h (zoI w) := by
  unfold f_X0_productOfBids at hf
  refine z_meth rfl (plainFor_of_name wpl_X0) (by simp [lg_sl, Value.category, zml, m_X0_productOfBids]) ?_
  refine z_iconst (0 : Int32) dX0_productOfBids_0 (by decide) ?_
  refine z_istore_n [(3, .int (0 : Int32)), (0, .ref a), (1, .int p1), (2, .int p2)] dX0_productOfBids_1 rfl (by decide) rfl ?_
  refine z_iload_n 2 dX0_productOfBids_2 rfl rfl ?_
  refine z_istore [(4, .int p1), (3, .int (0 : Int32)), (0, .ref a), (1, .int p1), (2, .int p2)] dX0_productOfBids_3 (by decide) rfl ?_
  refine Z.sub [2, 4, 1, 0] rfl (zl_X0_productOfBids_5 hd  N (0 : Int32) p1 h hf)
set_option maxRecDepth 4000 in
theorem zc_X8_product {Γ : zG} {N d : Nat} (hd : 13 ≤ d) {a : Nat} {h : zH} {w : Int32 × zH} (hf : f_X8_product N a h = some w) : Zm Γ m_X8_product d [.ref a] h (zoI w) := by
  unfold f_X8_product at hf
  refine z_meth rfl (plainFor_of_name wpl_X8) (by simp [lg_sl, Value.category, zml, m_X8_product]) ?_
  refine z_aload_n 0 dX8_product_0 rfl rfl ?_
  refine z_aload_n 0 dX8_product_1 rfl rfl ?_
  refine z_getA dX8_product_2 zc8 (by decide) wf_X8_28 hf fun x1 hf => ?_
  refine z_iconst (0 : Int32) dX8_product_5 (by decide) ?_
  refine z_aload_n 0 dX8_product_6 rfl rfl ?_
  refine z_getA dX8_product_7 zc8 (by decide) wf_X8_28 hf fun x2 hf => ?_
  refine z_getA dX8_product_10 zc0 (by decide) wf_X8_107 hf fun x3 hf => ?_
  refine z_cV_i (d' := d - 1) (As := []) (rest := [.int (0 : Int32), .ref x1, .ref a]) dX8_product_13 lk_X8_93 rfl hf (fun w1 e1 => zc_X6_size (by omega) e1) (by omega) rfl rfl (Nat.le_of_ble_eq_true rfl) fun y4 hf => ?_
  refine z_cV_i (d' := d - 1) (As := [.int (0 : Int32), .int y4.1]) (rest := [.ref a]) dX8_product_16 lk_X8_160 rfl hf (fun w1 e1 => zc_X0_productOfBids (by omega) e1) (by omega) rfl rfl (Nat.le_of_ble_eq_true rfl) fun y5 hf => ?_
  refine z_cV_i (d' := d - 1) (As := [.int y5.1]) (rest := []) dX8_product_19 lk_X8_144 rfl hf (fun w1 e1 => zc_X8_numberOf (by omega) e1) (by omega) rfl rfl (Nat.le_of_ble_eq_true rfl) fun y6 hf => ?_
  exact z_iret dX8_product_22 rfl (by cases hf; rfl)
set_option maxRecDepth 4000 in
theorem zl_X8_checksum_4 {Γ : zG} {N d : Nat} {h0 : zH} (hd : 16 ≤ d) {v0 : Nat} {k1 : Int64 → zH → Option ((Int64 ⊕ Nat) × zH)} {w : (Int64 ⊕ Nat) × zH}  (hk1 : ∀ (v1 : Int64) (h : zH), k1 v1 h = some w → Z Γ m_X8_checksum d h0 (zoTJ w) 29 [(0, .ref v0), (1, .long v1)] [] h) : ∀ (n : Nat) (v1 : Int64) (v3 : Int32) (h : zH), f_X8_checksum_l4 N v0 k1 n v1 v3 h = some w → Z Γ m_X8_checksum d h0 (zoTJ w) 4 [(0, .ref v0), (1, .long v1), (3, .int v3)] [] h := by
  intro n
  induction n with
  | zero => intro v1 v3 h hf; cases hf
  | succ n ih =>
    intro v1 v3 h hf
    rw [f_X8_checksum_l4] at hf
    refine z_iload_n 2 dX8_checksum_4 rfl rfl ?_
    refine z_bipush (8 : Int32) dX8_checksum_5 (by decide) ?_
    refine z_icmp_gt 29 dX8_checksum_7 (by decide) hf (fun hf => ?_) (fun hf => ?_)
    · exact Z.sub [0, 1] rfl (hk1 v1 h hf)
    · refine z_ldc2 (31 : Int64) dX8_checksum_10 wk_X8_232 ?_
      refine z_lload_n 1 dX8_checksum_13 rfl rfl ?_
      refine z_lmul dX8_checksum_14 ?_
      refine z_aload_n 0 dX8_checksum_15 rfl rfl ?_
      refine z_iload_n 2 dX8_checksum_16 rfl rfl ?_
      refine z_cV_ti (d' := d - 1) (As := [.int v3]) (rest := [.long ((31 : Int64) * v1)]) dX8_checksum_17 lk_X8_234 rfl hf (fun w1 e1 => zc_X8_state (by omega) e1) (by omega) rfl rfl (Nat.le_of_ble_eq_true rfl) (fun y1 x2 hf => ?_) (fun y1 k3 hf => ?_)
      · refine z_i2l dX8_checksum_20 ?_
        refine z_ladd dX8_checksum_21 ?_
        refine z_lstore_n [(1, .long (((31 : Int64) * v1) + x2.toInt64)), (0, .ref v0), (3, .int v3)] dX8_checksum_22 rfl (by decide) rfl ?_
        refine z_iinc (v3 + (1 : Int32)) 2 [(3, .int (v3 + (1 : Int32))), (1, .long (((31 : Int64) * v1) + x2.toInt64)), (0, .ref v0)] dX8_checksum_23 rfl rfl (by decide) rfl ?_
        refine z_goto 4 dX8_checksum_26 (by decide) ?_
        exact Z.sub [2, 1, 0] rfl (ih (((31 : Int64) * v1) + x2.toInt64) (v3 + (1 : Int32)) y1.2 hf)
      · exact zx_out rfl (by cases hf; rfl)
set_option maxRecDepth 4000 in
theorem zl_X8_checksum_31 {Γ : zG} {N d : Nat} {h0 : zH} (hd : 16 ≤ d) {v0 : Nat} {k1 : Int64 → zH → Option ((Int64 ⊕ Nat) × zH)} {w : (Int64 ⊕ Nat) × zH}  (hk1 : ∀ (v1 : Int64) (h : zH), k1 v1 h = some w → Z Γ m_X8_checksum d h0 (zoTJ w) 55 [(0, .ref v0), (1, .long v1)] [] h) : ∀ (n : Nat) (v1 : Int64) (v3 : Int32) (h : zH), f_X8_checksum_l31 N v0 k1 n v1 v3 h = some w → Z Γ m_X8_checksum d h0 (zoTJ w) 31 [(0, .ref v0), (1, .long v1), (3, .int v3)] [] h := by
  intro n
  induction n with
  | zero => intro v1 v3 h hf; cases hf
  | succ n ih =>
    intro v1 v3 h hf
    rw [f_X8_checksum_l31] at hf
    refine z_iload_n 2 dX8_checksum_31 rfl rfl ?_
    refine z_aload_n 0 dX8_checksum_32 rfl rfl ?_
    refine z_getA dX8_checksum_33 zc8 (by decide) wf_X8_28 hf fun x6 hf => ?_
    refine z_getI dX8_checksum_36 zc0 (by decide) wf_X8_83 hf fun x7 hf => ?_
    refine z_icmp_ge 55 dX8_checksum_39 (by decide) hf (fun hf => ?_) (fun hf => ?_)
    · exact Z.sub [0, 1] rfl (hk1 v1 h hf)
    · refine z_aload_n 0 dX8_checksum_42 rfl rfl ?_
      refine z_lload_n 1 dX8_checksum_43 rfl rfl ?_
      refine z_iload_n 2 dX8_checksum_44 rfl rfl ?_
      refine z_cV_tj (d' := d - 1) (As := [.long v1, .int v3]) (rest := []) dX8_checksum_45 lk_X8_237 rfl hf (fun w1 e1 => zc_X8_withPlayer (by omega) e1) (by omega) rfl rfl (Nat.le_of_ble_eq_true rfl) (fun y8 x9 hf => ?_) (fun y8 k10 hf => ?_)
      · refine z_lstore_n [(1, .long x9), (0, .ref v0), (3, .int v3)] dX8_checksum_48 rfl (by decide) rfl ?_
        refine z_iinc (v3 + (1 : Int32)) 2 [(3, .int (v3 + (1 : Int32))), (1, .long x9), (0, .ref v0)] dX8_checksum_49 rfl rfl (by decide) rfl ?_
        refine z_goto 31 dX8_checksum_52 (by decide) ?_
        exact Z.sub [2, 1, 0] rfl (ih x9 (v3 + (1 : Int32)) y8.2 hf)
      · exact zx_out rfl (by cases hf; rfl)
set_option maxRecDepth 4000 in
theorem zl_X8_checksum_74 {Γ : zG} {N d : Nat} {h0 : zH} (hd : 16 ≤ d) {v0 : Nat} {v3 : Int32} {k1 : Int64 → zH → Option ((Int64 ⊕ Nat) × zH)} {w : (Int64 ⊕ Nat) × zH}  (hk1 : ∀ (v1 : Int64) (h : zH), k1 v1 h = some w → Z Γ m_X8_checksum d h0 (zoTJ w) 101 [(0, .ref v0), (1, .long v1), (3, .int v3)] [] h) : ∀ (n : Nat) (v1 : Int64) (v4 : Int32) (h : zH), f_X8_checksum_l74 N v0 v3 k1 n v1 v4 h = some w → Z Γ m_X8_checksum d h0 (zoTJ w) 74 [(0, .ref v0), (1, .long v1), (3, .int v3), (4, .int v4)] [] h := by
  intro n
  induction n with
  | zero => intro v1 v4 h hf; cases hf
  | succ n ih =>
    intro v1 v4 h hf
    rw [f_X8_checksum_l74] at hf
    refine z_iload 3 dX8_checksum_74 rfl ?_
    refine z_iconst (2 : Int32) dX8_checksum_76 (by decide) ?_
    refine z_icmp_gt 101 dX8_checksum_77 (by decide) hf (fun hf => ?_) (fun hf => ?_)
    · exact Z.sub [0, 1, 2] rfl (hk1 v1 h hf)
    · refine z_ldc2 (31 : Int64) dX8_checksum_80 wk_X8_232 ?_
      refine z_lload_n 1 dX8_checksum_83 rfl rfl ?_
      refine z_lmul dX8_checksum_84 ?_
      refine z_aload_n 0 dX8_checksum_85 rfl rfl ?_
      refine z_iload_n 2 dX8_checksum_86 rfl rfl ?_
      refine z_iload 3 dX8_checksum_87 rfl ?_
      refine z_cV_ti (d' := d - 1) (As := [.int v3, .int v4]) (rest := [.long ((31 : Int64) * v1)]) dX8_checksum_89 lk_X8_241 rfl hf (fun w1 e1 => zc_X8_bid (by omega) e1) (by omega) rfl rfl (Nat.le_of_ble_eq_true rfl) (fun y16 x17 hf => ?_) (fun y16 k18 hf => ?_)
      · refine z_i2l dX8_checksum_92 ?_
        refine z_ladd dX8_checksum_93 ?_
        refine z_lstore_n [(1, .long (((31 : Int64) * v1) + x17.toInt64)), (0, .ref v0), (3, .int v3), (4, .int v4)] dX8_checksum_94 rfl (by decide) rfl ?_
        refine z_iinc (v4 + (1 : Int32)) 3 [(4, .int (v4 + (1 : Int32))), (1, .long (((31 : Int64) * v1) + x17.toInt64)), (0, .ref v0), (3, .int v3)] dX8_checksum_95 rfl rfl (by decide) rfl ?_
        refine z_goto 74 dX8_checksum_98 (by decide) ?_
        exact Z.sub [2, 1, 3, 0] rfl (ih (((31 : Int64) * v1) + x17.toInt64) (v4 + (1 : Int32)) y16.2 hf)
      · exact zx_out rfl (by cases hf; rfl)
set_option maxRecDepth 4000 in
theorem zl_X8_checksum_57 {Γ : zG} {N d : Nat} {h0 : zH} (hd : 16 ≤ d) {v0 : Nat} {k1 : Int64 → zH → Option ((Int64 ⊕ Nat) × zH)} {w : (Int64 ⊕ Nat) × zH}  (hk1 : ∀ (v1 : Int64) (h : zH), k1 v1 h = some w → Z Γ m_X8_checksum d h0 (zoTJ w) 107 [(0, .ref v0), (1, .long v1)] [] h) : ∀ (n : Nat) (v1 : Int64) (v3 : Int32) (h : zH), f_X8_checksum_l57 N v0 k1 n v1 v3 h = some w → Z Γ m_X8_checksum d h0 (zoTJ w) 57 [(0, .ref v0), (1, .long v1), (3, .int v3)] [] h := by
  intro n
  induction n with
  | zero => intro v1 v3 h hf; cases hf
  | succ n ih =>
    intro v1 v3 h hf
    rw [f_X8_checksum_l57] at hf
    refine z_iload_n 2 dX8_checksum_57 rfl rfl ?_
    refine z_aload_n 0 dX8_checksum_58 rfl rfl ?_
    refine z_getA dX8_checksum_59 zc8 (by decide) wf_X8_28 hf fun x13 hf => ?_
    refine z_getA dX8_checksum_62 zc0 (by decide) wf_X8_107 hf fun x14 hf => ?_
    refine z_cV_i (d' := d - 1) (As := []) (rest := [.int v3]) dX8_checksum_65 lk_X8_93 rfl hf (fun w1 e1 => zc_X6_size (by omega) e1) (by omega) rfl rfl (Nat.le_of_ble_eq_true rfl) fun y15 hf => ?_
    refine z_icmp_ge 107 dX8_checksum_68 (by decide) hf (fun hf => ?_) (fun hf => ?_)
    · exact Z.sub [0, 1] rfl (hk1 v1 y15.2 hf)
    · refine z_iconst (0 : Int32) dX8_checksum_71 (by decide) ?_
      refine z_istore [(4, .int (0 : Int32)), (0, .ref v0), (1, .long v1), (3, .int v3)] dX8_checksum_72 (by decide) rfl ?_
      refine Z.sub [1, 2, 3, 0] rfl (zl_X8_checksum_74 hd (fun u19 h20 hf => ?_) N v1 (0 : Int32) y15.2 hf)
      · refine z_iinc (v3 + (1 : Int32)) 2 [(3, .int (v3 + (1 : Int32))), (0, .ref v0), (1, .long u19)] dX8_checksum_101 rfl rfl (by decide) rfl ?_
        refine z_goto 57 dX8_checksum_104 (by decide) ?_
        exact Z.sub [1, 2, 0] rfl (ih u19 (v3 + (1 : Int32)) h20 hf)
set_option maxRecDepth 4000 in
theorem zc_X8_checksum {Γ : zG} {N d : Nat} (hd : 16 ≤ d) {a : Nat} {h : zH} {w : (Int64 ⊕ Nat) × zH} (hf : f_X8_checksum N a h = some w) : Zm Γ m_X8_checksum d [.ref a] h (zoTJ w) := by
  unfold f_X8_checksum at hf
  refine z_meth rfl (plainFor_of_name wpl_X8) (by simp [lg_sl, Value.category, zml, m_X8_checksum]) ?_
  refine z_lconst (0 : Int64) dX8_checksum_0 (by decide) ?_
  refine z_lstore_n [(1, .long (0 : Int64)), (0, .ref a)] dX8_checksum_1 rfl (by decide) rfl ?_
  refine z_iconst (0 : Int32) dX8_checksum_2 (by decide) ?_
  refine z_istore_n [(3, .int (0 : Int32)), (1, .long (0 : Int64)), (0, .ref a)] dX8_checksum_3 rfl (by decide) rfl ?_
  refine Z.sub [2, 1, 0] rfl (zl_X8_checksum_4 hd (fun u4 h5 hf => ?_) N (0 : Int64) (0 : Int32) h hf)
  · refine z_iconst (0 : Int32) dX8_checksum_29 (by decide) ?_
    refine z_istore_n [(3, .int (0 : Int32)), (0, .ref a), (1, .long u4)] dX8_checksum_30 rfl (by decide) rfl ?_
    refine Z.sub [1, 2, 0] rfl (zl_X8_checksum_31 hd (fun u11 h12 hf => ?_) N u4 (0 : Int32) h5 hf)
    · refine z_iconst (0 : Int32) dX8_checksum_55 (by decide) ?_
      refine z_istore_n [(3, .int (0 : Int32)), (0, .ref a), (1, .long u11)] dX8_checksum_56 rfl (by decide) rfl ?_
      refine Z.sub [1, 2, 0] rfl (zl_X8_checksum_57 hd (fun u21 h22 hf => ?_) N u11 (0 : Int32) h12 hf)
      · refine z_ldc2 (31 : Int64) dX8_checksum_107 wk_X8_232 ?_
        refine z_lload_n 1 dX8_checksum_110 rfl rfl ?_
        refine z_lmul dX8_checksum_111 ?_
        refine z_aload_n 0 dX8_checksum_112 rfl rfl ?_
        refine z_cV_i (d' := d - 1) (As := []) (rest := [.long ((31 : Int64) * u21)]) dX8_checksum_113 lk_X8_244 rfl hf (fun w1 e1 => zc_X8_product (by omega) e1) (by omega) rfl rfl (Nat.le_of_ble_eq_true rfl) fun y23 hf => ?_
        refine z_i2l dX8_checksum_116 ?_
        refine z_ladd dX8_checksum_117 ?_
        exact z_lret dX8_checksum_118 rfl (by cases hf; rfl)

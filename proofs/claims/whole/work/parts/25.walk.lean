set_option maxRecDepth 4000 in
theorem zj_X9_noPlayer_22 {Γ : zG} {N d : Nat} {h0 : zH} (hd : 11 ≤ d)  {s0 : Nat} {s1 : Int32} {h : zH} {w : Int32 × zH} (hf : f_X9_noPlayer_j22 N  s0 s1 h = some w) : Z Γ m_X9_noPlayer d h0 (zoI w) 22 [] [.int s1, .ref s0] h := by
  unfold f_X9_noPlayer_j22 at hf
  refine z_iconst (1 : Int32) dX9_noPlayer_22 (by decide) ?_
  refine z_cV_i (d' := d - 1) (As := [.int s1, .int (1 : Int32)]) (rest := []) dX9_noPlayer_23 lk_X9_185 rfl hf (fun w1 e1 => zc_X9_fails (by omega) e1) (by omega) rfl rfl (Nat.le_of_ble_eq_true rfl) fun y4 hf => ?_
  obtain ⟨x5, hz, hf⟩ := Option.bind_eq_some_iff.mp hf
  obtain ⟨hb, rfl⟩ := zB_of hz
  exact z_zret dX9_noPlayer_26 rfl hb (by cases hf; rfl)
set_option maxRecDepth 4000 in
theorem zc_X9_noPlayer {Γ : zG} {N d : Nat} (hd : 11 ≤ d) {a : Nat} {p1 : Int32} {h : zH} {w : Int32 × zH} (hf : f_X9_noPlayer N a p1 h = some w) : Zm Γ m_X9_noPlayer d [.ref a, .int p1] h (zoI w) := by
  unfold f_X9_noPlayer at hf
  refine z_meth rfl (plainFor_of_name wpl_X9) (by simp [lg_sl, Value.category, zml, m_X9_noPlayer]) ?_
  refine z_aload_n 0 dX9_noPlayer_0 rfl rfl ?_
  refine z_iload_n 1 dX9_noPlayer_1 rfl rfl ?_
  refine z_iconst (0 : Int32) dX9_noPlayer_2 (by decide) ?_
  refine z_aload_n 0 dX9_noPlayer_3 rfl rfl ?_
  refine z_getA dX9_noPlayer_4 zc9 (by decide) wf_X9_17 hf fun x1 hf => ?_
  refine z_iconst (1 : Int32) dX9_noPlayer_7 (by decide) ?_
  refine z_iaload dX9_noPlayer_8 hf fun x2 hf => ?_
  refine z_iconst (1 : Int32) dX9_noPlayer_9 (by decide) ?_
  refine z_isub dX9_noPlayer_10 ?_
  refine z_cS_i (d' := d - 1) (As := [.int p1, .int (0 : Int32), .int (x2 - (1 : Int32))]) (rest := [.ref a]) dX9_noPlayer_11 lk_X9_79 hf (fun w1 e1 => zc_X9_in (by omega) e1) (by omega) rfl rfl (Nat.le_of_ble_eq_true rfl) fun y3 hf => ?_
  refine z_if_ne 21 dX9_noPlayer_14 (by decide) hf (fun hf => ?_) (fun hf => ?_)
  · refine z_iconst (1 : Int32) dX9_noPlayer_17 (by decide) ?_
    refine z_goto 22 dX9_noPlayer_18 (by decide) ?_
    exact Z.sub [] rfl (zj_X9_noPlayer_22 hd hf)
  · refine z_iconst (0 : Int32) dX9_noPlayer_21 (by decide) ?_
    exact Z.sub [] rfl (zj_X9_noPlayer_22 hd hf)
set_option maxRecDepth 4000 in
theorem zc_X9_at {Γ : zG} {N d : Nat} (hd : 10 ≤ d) {p1 : Int32} {h : zH} {w : Int32 × zH} (hf : f_X9_at N p1 h = some w) : Zm Γ m_X9_at d [.int p1] h (zoI w) := by
  unfold f_X9_at at hf
  refine z_meth rfl (plainFor_of_name wpl_X9) (by simp [lg_sl, Value.category, zml, m_X9_at]) ?_
  refine z_bipush (11 : Int32) dX9_at_0 (by decide) ?_
  refine z_bipush (19 : Int32) dX9_at_2 (by decide) ?_
  refine z_iload_n 0 dX9_at_4 rfl rfl ?_
  refine z_imul dX9_at_5 ?_
  refine z_iadd dX9_at_6 ?_
  exact z_iret dX9_at_7 rfl (by cases hf; rfl)
set_option maxRecDepth 4000 in
theorem zj_X9_player_28 {Γ : zG} {N d : Nat} {h0 : zH} (hd : 12 ≤ d) {v0 : Nat} {v1 : Int32} {v2 : Int32} {s0 : Nat} {s1 : Int32} {h : zH} {w : Int32 × zH} (hf : f_X9_player_j28 N v0 v1 v2 s0 s1 h = some w) : Z Γ m_X9_player d h0 (zoI w) 28 [(0, .ref v0), (1, .int v1), (2, .int v2)] [.int s1, .ref s0] h := by
  unfold f_X9_player_j28 at hf
  refine z_iconst (2 : Int32) dX9_player_28 (by decide) ?_
  refine z_cV_i (d' := d - 1) (As := [.int s1, .int (2 : Int32)]) (rest := []) dX9_player_29 lk_X9_185 rfl hf (fun w1 e1 => zc_X9_fails (by omega) e1) (by omega) rfl rfl (Nat.le_of_ble_eq_true rfl) fun y4 hf => ?_
  refine z_if_eq 39 dX9_player_32 (by decide) hf (fun hf => ?_) (fun hf => ?_)
  · refine z_aload_n 0 dX9_player_39 rfl rfl ?_
    refine z_getA dX9_player_40 zc9 (by decide) wf_X9_17 hf fun x5 hf => ?_
    refine z_iload_n 1 dX9_player_43 rfl rfl ?_
    refine z_cS_i (d' := d - 1) (As := [.int v1]) (rest := [.ref x5]) dX9_player_44 lk_X9_201 hf (fun w1 e1 => zc_X9_at (by omega) e1) (by omega) rfl rfl (Nat.le_of_ble_eq_true rfl) fun y6 hf => ?_
    refine z_iload_n 2 dX9_player_47 rfl rfl ?_
    refine z_iadd dX9_player_48 ?_
    refine z_iaload dX9_player_49 hf fun x7 hf => ?_
    exact z_iret dX9_player_50 rfl (by cases hf; rfl)
  · refine z_iconst (0 : Int32) dX9_player_35 (by decide) ?_
    refine z_goto 50 dX9_player_36 (by decide) ?_
    exact z_iret dX9_player_50 rfl (by cases hf; rfl)
set_option maxRecDepth 4000 in
theorem zc_X9_player {Γ : zG} {N d : Nat} (hd : 12 ≤ d) {a : Nat} {p1 : Int32} {p2 : Int32} {h : zH} {w : Int32 × zH} (hf : f_X9_player N a p1 p2 h = some w) : Zm Γ m_X9_player d [.ref a, .int p1, .int p2] h (zoI w) := by
  unfold f_X9_player at hf
  refine z_meth rfl (plainFor_of_name wpl_X9) (by simp [lg_sl, Value.category, zml, m_X9_player]) ?_
  refine z_aload_n 0 dX9_player_0 rfl rfl ?_
  refine z_iconst (0 : Int32) dX9_player_1 (by decide) ?_
  refine z_putB dX9_player_2 zc9 (by decide) wf_X9_46 (Or.inl rfl) rfl rfl hf fun h1 hf => ?_
  refine z_aload_n 0 dX9_player_5 rfl rfl ?_
  refine z_iload_n 1 dX9_player_6 rfl rfl ?_
  refine z_cV_i (d' := d - 1) (As := [.int p1]) (rest := []) dX9_player_7 lk_X9_254 rfl hf (fun w1 e1 => zc_X9_noPlayer (by omega) e1) (by omega) rfl rfl (Nat.le_of_ble_eq_true rfl) fun y2 hf => ?_
  refine z_if_ne 35 dX9_player_10 (by decide) hf (fun hf => ?_) (fun hf => ?_)
  · refine z_aload_n 0 dX9_player_13 rfl rfl ?_
    refine z_iload_n 2 dX9_player_14 rfl rfl ?_
    refine z_iconst (0 : Int32) dX9_player_15 (by decide) ?_
    refine z_iconst (2 : Int32) dX9_player_16 (by decide) ?_
    refine z_cS_i (d' := d - 1) (As := [.int p2, .int (0 : Int32), .int (2 : Int32)]) (rest := [.ref a]) dX9_player_17 lk_X9_79 hf (fun w1 e1 => zc_X9_in (by omega) e1) (by omega) rfl rfl (Nat.le_of_ble_eq_true rfl) fun y3 hf => ?_
    refine z_if_ne 27 dX9_player_20 (by decide) hf (fun hf => ?_) (fun hf => ?_)
    · refine z_iconst (1 : Int32) dX9_player_23 (by decide) ?_
      refine z_goto 28 dX9_player_24 (by decide) ?_
      exact Z.sub [0, 1, 2] rfl (zj_X9_player_28 hd hf)
    · refine z_iconst (0 : Int32) dX9_player_27 (by decide) ?_
      exact Z.sub [0, 1, 2] rfl (zj_X9_player_28 hd hf)
  · refine z_iconst (0 : Int32) dX9_player_35 (by decide) ?_
    refine z_goto 50 dX9_player_36 (by decide) ?_
    exact z_iret dX9_player_50 rfl (by cases hf; rfl)
set_option maxRecDepth 4000 in
theorem zc_X6_at {Γ : zG} {N d : Nat} (hd : 11 ≤ d) {a : Nat} {p1 : Int32} {h : zH} {w : Int32 × zH} (hf : f_X6_at N a p1 h = some w) : Zm Γ m_X6_at d [.ref a, .int p1] h (zoI w) := by
  unfold f_X6_at at hf
  refine z_meth rfl (plainFor_of_name wpl_X6) (by simp [lg_sl, Value.category, zml, m_X6_at]) ?_
  refine z_aload_n 0 dX6_at_0 rfl rfl ?_
  refine z_iload_n 1 dX6_at_1 rfl rfl ?_
  refine z_cV_i (d' := d - 1) (As := [.int p1]) (rest := []) dX6_at_2 lk_X6_23 rfl hf (fun w1 e1 => zc_X6_holds (by omega) e1) (by omega) rfl rfl (Nat.le_of_ble_eq_true rfl) fun y1 hf => ?_
  refine z_if_eq 17 dX6_at_5 (by decide) hf (fun hf => ?_) (fun hf => ?_)
  · refine z_iconst (0 : Int32) dX6_at_17 (by decide) ?_
    exact z_iret dX6_at_18 rfl (by cases hf; rfl)
  · refine z_aload_n 0 dX6_at_8 rfl rfl ?_
    refine z_getA dX6_at_9 zc6 (by decide) wf_X6_13 hf fun x2 hf => ?_
    refine z_iload_n 1 dX6_at_12 rfl rfl ?_
    refine z_iaload dX6_at_13 hf fun x3 hf => ?_
    refine z_goto 18 dX6_at_14 (by decide) ?_
    exact z_iret dX6_at_18 rfl (by cases hf; rfl)
set_option maxRecDepth 4000 in
theorem zc_X2_goal {Γ : zG} {N d : Nat} (hd : 10 ≤ d) {a : Nat} {p1 : Int32} {p2 : Int32} {h : zH} {w : Int32 × zH} (hf : f_X2_goal N a p1 p2 h = some w) : Zm Γ m_X2_goal d [.ref a, .int p1, .int p2] h (zoI w) := by
  unfold f_X2_goal at hf
  refine z_meth rfl (plainFor_of_name wpl_X2) (by simp [lg_sl, Value.category, zml, m_X2_goal]) ?_
  refine z_iload_n 1 dX2_goal_0 rfl rfl ?_
  refine z_if_lt 19 dX2_goal_1 (by decide) hf (fun hf => ?_) (fun hf => ?_)
  · refine z_iconst (0 : Int32) dX2_goal_19 (by decide) ?_
    exact z_iret dX2_goal_20 rfl (by cases hf; rfl)
  · refine z_iload_n 1 dX2_goal_4 rfl rfl ?_
    refine z_bipush (120 : Int32) dX2_goal_5 (by decide) ?_
    refine z_icmp_ge 19 dX2_goal_7 (by decide) hf (fun hf => ?_) (fun hf => ?_)
    · refine z_iconst (0 : Int32) dX2_goal_19 (by decide) ?_
      exact z_iret dX2_goal_20 rfl (by cases hf; rfl)
    · refine z_iload_n 2 dX2_goal_10 rfl rfl ?_
      refine z_if_lt 19 dX2_goal_11 (by decide) hf (fun hf => ?_) (fun hf => ?_)
      · refine z_iconst (0 : Int32) dX2_goal_19 (by decide) ?_
        exact z_iret dX2_goal_20 rfl (by cases hf; rfl)
      · refine z_iload_n 2 dX2_goal_14 rfl rfl ?_
        refine z_iconst (5 : Int32) dX2_goal_15 (by decide) ?_
        refine z_icmp_lt 21 dX2_goal_16 (by decide) hf (fun hf => ?_) (fun hf => ?_)
        · refine z_aload_n 0 dX2_goal_21 rfl rfl ?_
          refine z_getA dX2_goal_22 zc2 (by decide) wf_X2_9 hf fun x1 hf => ?_
          refine z_iload_n 1 dX2_goal_25 rfl rfl ?_
          refine z_iconst (5 : Int32) dX2_goal_26 (by decide) ?_
          refine z_imul dX2_goal_27 ?_
          refine z_iload_n 2 dX2_goal_28 rfl rfl ?_
          refine z_iadd dX2_goal_29 ?_
          refine z_iaload dX2_goal_30 hf fun x2 hf => ?_
          exact z_iret dX2_goal_31 rfl (by cases hf; rfl)
        · refine z_iconst (0 : Int32) dX2_goal_19 (by decide) ?_
          exact z_iret dX2_goal_20 rfl (by cases hf; rfl)
set_option maxRecDepth 4000 in
theorem zl_X2_toNumber_5 {Γ : zG} {N d : Nat} {h0 : zH} (hd : 11 ≤ d) {v0 : Nat} {v1 : Int32} {v2 : Int32}  {w : Int32 × zH}   : ∀ (n : Nat) (v3 : Int32) (v4 : Int32) (h : zH), f_X2_toNumber_l5 N v0 v1 v2 n v3 v4 h = some w → Z Γ m_X2_toNumber d h0 (zoI w) 5 [(0, .ref v0), (1, .int v1), (2, .int v2), (3, .int v3), (4, .int v4)] [] h := by
  intro n
  induction n with
  | zero => intro v3 v4 h hf; cases hf
  | succ n ih =>
    intro v3 v4 h hf
    rw [f_X2_toNumber_l5] at hf
    refine z_iload 4 dX2_toNumber_5 rfl ?_
    refine z_iload_n 2 dX2_toNumber_7 rfl rfl ?_
    refine z_icmp_ge 38 dX2_toNumber_8 (by decide) hf (fun hf => ?_) (fun hf => ?_)
    · refine z_iload_n 3 dX2_toNumber_38 rfl rfl ?_
      exact z_iret dX2_toNumber_39 rfl (by cases hf; rfl)
    · refine z_iload 4 dX2_toNumber_11 rfl ?_
      refine z_iconst (5 : Int32) dX2_toNumber_13 (by decide) ?_
      refine z_icmp_ge 38 dX2_toNumber_14 (by decide) hf (fun hf => ?_) (fun hf => ?_)
      · refine z_iload_n 3 dX2_toNumber_38 rfl rfl ?_
        exact z_iret dX2_toNumber_39 rfl (by cases hf; rfl)
      · refine z_iload_n 3 dX2_toNumber_17 rfl rfl ?_
        refine z_bipush (10 : Int32) dX2_toNumber_18 (by decide) ?_
        refine z_imul dX2_toNumber_20 ?_
        refine z_aload_n 0 dX2_toNumber_21 rfl rfl ?_
        refine z_iload_n 1 dX2_toNumber_22 rfl rfl ?_
        refine z_iload 4 dX2_toNumber_23 rfl ?_
        refine z_cV_i (d' := d - 1) (As := [.int v1, .int v4]) (rest := [.int (v3 * (10 : Int32))]) dX2_toNumber_25 lk_X2_24 rfl hf (fun w1 e1 => zc_X2_goal (by omega) e1) (by omega) rfl rfl (Nat.le_of_ble_eq_true rfl) fun y1 hf => ?_
        refine z_iadd dX2_toNumber_28 ?_
        refine z_iconst (1 : Int32) dX2_toNumber_29 (by decide) ?_
        refine z_iadd dX2_toNumber_30 ?_
        refine z_istore_n [(3, .int (((v3 * (10 : Int32)) + y1.1) + (1 : Int32))), (0, .ref v0), (1, .int v1), (2, .int v2), (4, .int v4)] dX2_toNumber_31 rfl (by decide) rfl ?_
        refine z_iinc (v4 + (1 : Int32)) 4 [(4, .int (v4 + (1 : Int32))), (3, .int (((v3 * (10 : Int32)) + y1.1) + (1 : Int32))), (0, .ref v0), (1, .int v1), (2, .int v2)] dX2_toNumber_32 rfl rfl (by decide) rfl ?_
        refine z_goto 5 dX2_toNumber_35 (by decide) ?_
        exact Z.sub [2, 3, 4, 1, 0] rfl (ih (((v3 * (10 : Int32)) + y1.1) + (1 : Int32)) (v4 + (1 : Int32)) y1.2 hf)
set_option maxRecDepth 4000 in
theorem zc_X2_toNumber {Γ : zG} {N d : Nat} (hd : 11 ≤ d) {a : Nat} {p1 : Int32} {p2 : Int32} {h : zH} {w : Int32 × zH} (hf : f_X2_toNumber N a p1 p2 h = some w) : Zm Γ m_X2_toNumber d [.ref a, .int p1, .int p2] h (zoI w) := by
  unfold f_X2_toNumber at hf
  refine z_meth rfl (plainFor_of_name wpl_X2) (by simp [lg_sl, Value.category, zml, m_X2_toNumber]) ?_
  refine z_iconst (0 : Int32) dX2_toNumber_0 (by decide) ?_
  refine z_istore_n [(3, .int (0 : Int32)), (0, .ref a), (1, .int p1), (2, .int p2)] dX2_toNumber_1 rfl (by decide) rfl ?_
  refine z_iconst (0 : Int32) dX2_toNumber_2 (by decide) ?_
  refine z_istore [(4, .int (0 : Int32)), (3, .int (0 : Int32)), (0, .ref a), (1, .int p1), (2, .int p2)] dX2_toNumber_3 (by decide) rfl ?_
  refine Z.sub [2, 3, 4, 1, 0] rfl (zl_X2_toNumber_5 hd  N (0 : Int32) (0 : Int32) h hf)
set_option maxRecDepth 4000 in
theorem zc_X8_numberOf {Γ : zG} {N d : Nat} (hd : 12 ≤ d) {a : Nat} {p1 : Int32} {h : zH} {w : Int32 × zH} (hf : f_X8_numberOf N a p1 h = some w) : Zm Γ m_X8_numberOf d [.ref a, .int p1] h (zoI w) := by
  unfold f_X8_numberOf at hf
  refine z_meth rfl (plainFor_of_name wpl_X8) (by simp [lg_sl, Value.category, zml, m_X8_numberOf]) ?_
  refine z_aload_n 0 dX8_numberOf_0 rfl rfl ?_
  refine z_getA dX8_numberOf_1 zc8 (by decide) wf_X8_10 hf fun x1 hf => ?_
  refine z_iload_n 1 dX8_numberOf_4 rfl rfl ?_
  refine z_aload_n 0 dX8_numberOf_5 rfl rfl ?_
  refine z_getA dX8_numberOf_6 zc8 (by decide) wf_X8_28 hf fun x2 hf => ?_
  refine z_getI dX8_numberOf_9 zc0 (by decide) wf_X8_86 hf fun x3 hf => ?_
  refine z_cV_i (d' := d - 1) (As := [.int p1, .int x3]) (rest := []) dX8_numberOf_12 lk_X8_263 rfl hf (fun w1 e1 => zc_X2_toNumber (by omega) e1) (by omega) rfl rfl (Nat.le_of_ble_eq_true rfl) fun y4 hf => ?_
  exact z_iret dX8_numberOf_15 rfl (by cases hf; rfl)
set_option maxRecDepth 4000 in
theorem zl_X2_times_5 {Γ : zG} {N d : Nat} {h0 : zH} (hd : 11 ≤ d) {v0 : Nat} {v1 : Int32} {v2 : Int32} {k1 : Int32 → zH → Option (Int32 × zH)} {w : Int32 × zH}  (hk1 : ∀ (v3 : Int32) (h : zH), k1 v3 h = some w → Z Γ m_X2_times d h0 (zoI w) 34 [(0, .ref v0), (3, .int v3)] [] h) : ∀ (n : Nat) (v3 : Int32) (v4 : Int32) (h : zH), f_X2_times_l5 N v0 v1 v2 k1 n v3 v4 h = some w → Z Γ m_X2_times d h0 (zoI w) 5 [(0, .ref v0), (1, .int v1), (2, .int v2), (3, .int v3), (4, .int v4)] [] h := by
  intro n
  induction n with
  | zero => intro v3 v4 h hf; cases hf
  | succ n ih =>
    intro v3 v4 h hf
    rw [f_X2_times_l5] at hf
    refine z_iload 4 dX2_times_5 rfl ?_
    refine z_if_le 34 dX2_times_7 (by decide) hf (fun hf => ?_) (fun hf => ?_)
    · exact Z.sub [0, 3] rfl (hk1 v3 h hf)
    · refine z_aload_n 0 dX2_times_10 rfl rfl ?_
      refine z_iload_n 3 dX2_times_11 rfl rfl ?_
      refine z_aload_n 0 dX2_times_12 rfl rfl ?_
      refine z_iload_n 2 dX2_times_13 rfl rfl ?_
      refine z_aload_n 0 dX2_times_14 rfl rfl ?_
      refine z_iload_n 1 dX2_times_15 rfl rfl ?_
      refine z_iload 4 dX2_times_16 rfl ?_
      refine z_cV_i (d' := d - 1) (As := [.int v1, .int v4]) (rest := [.int v2, .ref v0, .int v3, .ref v0]) dX2_times_18 lk_X2_24 rfl hf (fun w1 e1 => zc_X2_goal (by omega) e1) (by omega) rfl rfl (Nat.le_of_ble_eq_true rfl) fun y1 hf => ?_
      refine z_cV_i (d' := d - 1) (As := [.int v2, .int y1.1]) (rest := [.int v3, .ref v0]) dX2_times_21 lk_X2_24 rfl hf (fun w1 e1 => zc_X2_goal (by omega) e1) (by omega) rfl rfl (Nat.le_of_ble_eq_true rfl) fun y2 hf => ?_
      refine z_cV_i (d' := d - 1) (As := [.int v3, .int y2.1]) (rest := []) dX2_times_24 lk_X2_28 rfl hf (fun w1 e1 => zc_X2_longerKey (by omega) e1) (by omega) rfl rfl (Nat.le_of_ble_eq_true rfl) fun y3 hf => ?_
      refine z_istore_n [(3, .int y3.1), (0, .ref v0), (1, .int v1), (2, .int v2), (4, .int v4)] dX2_times_27 rfl (by decide) rfl ?_
      refine z_iinc (v4 + (-1 : Int32)) 4 [(4, .int (v4 + (-1 : Int32))), (3, .int y3.1), (0, .ref v0), (1, .int v1), (2, .int v2)] dX2_times_28 rfl rfl (by decide) rfl ?_
      refine z_goto 5 dX2_times_31 (by decide) ?_
      exact Z.sub [2, 3, 4, 1, 0] rfl (ih y3.1 (v4 + (-1 : Int32)) y3.2 hf)
set_option maxRecDepth 4000 in
theorem zc_X2_times {Γ : zG} {N d : Nat} (hd : 11 ≤ d) {a : Nat} {p1 : Int32} {p2 : Int32} {h : zH} {w : Int32 × zH} (hf : f_X2_times N a p1 p2 h = some w) : Zm Γ m_X2_times d [.ref a, .int p1, .int p2] h (zoI w) := by
  unfold f_X2_times at hf
  refine z_meth rfl (plainFor_of_name wpl_X2) (by simp [lg_sl, Value.category, zml, m_X2_times]) ?_
  refine z_iconst (0 : Int32) dX2_times_0 (by decide) ?_
  refine z_istore_n [(3, .int (0 : Int32)), (0, .ref a), (1, .int p1), (2, .int p2)] dX2_times_1 rfl (by decide) rfl ?_
  refine z_iconst (4 : Int32) dX2_times_2 (by decide) ?_
  refine z_istore [(4, .int (4 : Int32)), (3, .int (0 : Int32)), (0, .ref a), (1, .int p1), (2, .int p2)] dX2_times_3 (by decide) rfl ?_
  refine Z.sub [2, 3, 4, 1, 0] rfl (zl_X2_times_5 hd (fun u4 h5 hf => ?_) N (0 : Int32) (4 : Int32) h hf)
  · refine z_aload_n 0 dX2_times_34 rfl rfl ?_
    refine z_iload_n 1 dX2_times_35 rfl rfl ?_
    refine z_cV_i (d' := d - 1) (As := [.int u4]) (rest := []) dX2_times_36 lk_X2_31 rfl hf (fun w1 e1 => zc_X2_withKey (by omega) e1) (by omega) rfl rfl (Nat.le_of_ble_eq_true rfl) fun y6 hf => ?_
    exact z_iret dX2_times_39 rfl (by cases hf; rfl)
set_option maxRecDepth 4000 in
theorem zl_X2_period_4 {Γ : zG} {N d : Nat} {h0 : zH} (hd : 12 ≤ d) {v0 : Nat} {v1 : Int32}  {w : Int32 × zH}   : ∀ (n : Nat) (v2 : Int32) (v3 : Int32) (h : zH), f_X2_period_l4 N v0 v1 n v2 v3 h = some w → Z Γ m_X2_period d h0 (zoI w) 4 [(0, .ref v0), (1, .int v1), (2, .int v2), (3, .int v3)] [] h := by
  intro n
  induction n with
  | zero => intro v2 v3 h hf; cases hf
  | succ n ih =>
    intro v2 v3 h hf
    rw [f_X2_period_l4] at hf
    refine z_iload_n 2 dX2_period_4 rfl rfl ?_
    refine z_if_eq 27 dX2_period_5 (by decide) hf (fun hf => ?_) (fun hf => ?_)
    · refine z_iload_n 3 dX2_period_27 rfl rfl ?_
      exact z_iret dX2_period_28 rfl (by cases hf; rfl)
    · refine z_iload_n 3 dX2_period_8 rfl rfl ?_
      refine z_bipush (120 : Int32) dX2_period_9 (by decide) ?_
      refine z_icmp_ge 27 dX2_period_11 (by decide) hf (fun hf => ?_) (fun hf => ?_)
      · refine z_iload_n 3 dX2_period_27 rfl rfl ?_
        exact z_iret dX2_period_28 rfl (by cases hf; rfl)
      · refine z_aload_n 0 dX2_period_14 rfl rfl ?_
        refine z_iload_n 2 dX2_period_15 rfl rfl ?_
        refine z_iload_n 1 dX2_period_16 rfl rfl ?_
        refine z_cV_i (d' := d - 1) (As := [.int v2, .int v1]) (rest := []) dX2_period_17 lk_X2_34 rfl hf (fun w1 e1 => zc_X2_times (by omega) e1) (by omega) rfl rfl (Nat.le_of_ble_eq_true rfl) fun y1 hf => ?_
        refine z_istore_n [(2, .int y1.1), (0, .ref v0), (1, .int v1), (3, .int v3)] dX2_period_20 rfl (by decide) rfl ?_
        refine z_iinc (v3 + (1 : Int32)) 3 [(3, .int (v3 + (1 : Int32))), (2, .int y1.1), (0, .ref v0), (1, .int v1)] dX2_period_21 rfl rfl (by decide) rfl ?_
        refine z_goto 4 dX2_period_24 (by decide) ?_
        exact Z.sub [2, 3, 1, 0] rfl (ih y1.1 (v3 + (1 : Int32)) y1.2 hf)
set_option maxRecDepth 4000 in
theorem zc_X2_period {Γ : zG} {N d : Nat} (hd : 12 ≤ d) {a : Nat} {p1 : Int32} {h : zH} {w : Int32 × zH} (hf : f_X2_period N a p1 h = some w) : Zm Γ m_X2_period d [.ref a, .int p1] h (zoI w) := by
  unfold f_X2_period at hf
  refine z_meth rfl (plainFor_of_name wpl_X2) (by simp [lg_sl, Value.category, zml, m_X2_period]) ?_
  refine z_iload_n 1 dX2_period_0 rfl rfl ?_
  refine z_istore_n [(2, .int p1), (0, .ref a), (1, .int p1)] dX2_period_1 rfl (by decide) rfl ?_
  refine z_iconst (1 : Int32) dX2_period_2 (by decide) ?_
  refine z_istore_n [(3, .int (1 : Int32)), (2, .int p1), (0, .ref a), (1, .int p1)] dX2_period_3 rfl (by decide) rfl ?_
  refine Z.sub [2, 3, 1, 0] rfl (zl_X2_period_4 hd  N p1 (1 : Int32) h hf)
set_option maxRecDepth 4000 in
theorem zc_J9_min_f86c9 {Γ : zG} {N d : Nat} (hd : 10 ≤ d) {p1 : Int64} {p2 : Int64} {h : zH} {w : Int64 × zH} (hf : f_J9_min_f86c9 N p1 p2 h = some w) : Zm Γ m_J9_min_f86c9 d [.long p1, .long p2] h (zoJ w) := by
  unfold f_J9_min_f86c9 at hf
  refine z_meth rfl (by decide +kernel) (by simp [lg_sl, Value.category, zml, m_J9_min_f86c9]) ?_
  refine z_lload_n 0 dJ9_min_f86c9_0 rfl rfl ?_
  refine z_lload_n 1 dJ9_min_f86c9_1 rfl rfl ?_
  refine z_lcmp dJ9_min_f86c9_2 ?_
  refine z_if_gt 10 dJ9_min_f86c9_3 (by decide) hf (fun hf => ?_) (fun hf => ?_)
  · refine z_lload_n 1 dJ9_min_f86c9_10 rfl rfl ?_
    exact z_lret dJ9_min_f86c9_11 rfl (by cases hf; rfl)
  · refine z_lload_n 0 dJ9_min_f86c9_6 rfl rfl ?_
    refine z_goto 11 dJ9_min_f86c9_7 (by decide) ?_
    exact z_lret dJ9_min_f86c9_11 rfl (by cases hf; rfl)
set_option maxRecDepth 4000 in
theorem zc_J9_max_f86c9 {Γ : zG} {N d : Nat} (hd : 10 ≤ d) {p1 : Int64} {p2 : Int64} {h : zH} {w : Int64 × zH} (hf : f_J9_max_f86c9 N p1 p2 h = some w) : Zm Γ m_J9_max_f86c9 d [.long p1, .long p2] h (zoJ w) := by
  unfold f_J9_max_f86c9 at hf
  refine z_meth rfl (by decide +kernel) (by simp [lg_sl, Value.category, zml, m_J9_max_f86c9]) ?_
  refine z_lload_n 0 dJ9_max_f86c9_0 rfl rfl ?_
  refine z_lload_n 1 dJ9_max_f86c9_1 rfl rfl ?_
  refine z_lcmp dJ9_max_f86c9_2 ?_
  refine z_if_lt 10 dJ9_max_f86c9_3 (by decide) hf (fun hf => ?_) (fun hf => ?_)
  · refine z_lload_n 1 dJ9_max_f86c9_10 rfl rfl ?_
    exact z_lret dJ9_max_f86c9_11 rfl (by cases hf; rfl)
  · refine z_lload_n 0 dJ9_max_f86c9_6 rfl rfl ?_
    refine z_goto 11 dJ9_max_f86c9_7 (by decide) ?_
    exact z_lret dJ9_max_f86c9_11 rfl (by cases hf; rfl)
set_option maxRecDepth 4000 in
theorem zj_X5_result_67 {Γ : zG} {N d : Nat} {h0 : zH} (hd : 11 ≤ d) {v5 : Int64}  {h : zH} {w : Int64 × zH} (hf : f_X5_result_j67 N v5  h = some w) : Z Γ m_X5_result d h0 (zoJ w) 67 [(5, .long v5)] [] h := by
  unfold f_X5_result_j67 at hf
  refine z_ldc2 (-1000000 : Int64) dX5_result_67 wk_X5_38 ?_
  refine z_ldc2 (1000000 : Int64) dX5_result_70 wk_X5_40 ?_
  refine z_lload 0 dX5_result_73 rfl ?_
  refine z_cS_j (d' := d - 1) (As := [.long (1000000 : Int64), .long v5]) (rest := [.long (-1000000 : Int64)]) dX5_result_75 lk_X5_29 hf (fun w1 e1 => zc_J9_min_f86c9 (by omega) e1) (by omega) rfl rfl (Nat.le_of_ble_eq_true rfl) fun y1 hf => ?_
  refine z_cS_j (d' := d - 1) (As := [.long (-1000000 : Int64), .long y1.1]) (rest := []) dX5_result_78 lk_X5_35 hf (fun w1 e1 => zc_J9_max_f86c9 (by omega) e1) (by omega) rfl rfl (Nat.le_of_ble_eq_true rfl) fun y2 hf => ?_
  exact z_lret dX5_result_81 rfl (by cases hf; rfl)
set_option maxRecDepth 4000 in
theorem zj_X5_result_65 {Γ : zG} {N d : Nat} {h0 : zH} (hd : 11 ≤ d)  {s0 : Int64} {h : zH} {w : Int64 × zH} (hf : f_X5_result_j65 N  s0 h = some w) : Z Γ m_X5_result d h0 (zoJ w) 65 [] [.long s0] h := by
  unfold f_X5_result_j65 at hf
  refine z_lstore [(5, .long s0)] dX5_result_65 (by decide) rfl ?_
  exact Z.sub [0] rfl (zj_X5_result_67 hd hf)
set_option maxRecDepth 4000 in
theorem zc_X5_result {Γ : zG} {N d : Nat} (hd : 11 ≤ d) {p1 : Int32} {p2 : Int64} {p3 : Int64} {h : zH} {w : Int64 × zH} (hf : f_X5_result N p1 p2 p3 h = some w) : Zm Γ m_X5_result d [.int p1, .long p2, .long p3] h (zoJ w) := by
  unfold f_X5_result at hf
  refine z_meth rfl (plainFor_of_name wpl_X5) (by simp [lg_sl, Value.category, zml, m_X5_result]) ?_
  refine z_iload_n 0 dX5_result_0 rfl rfl ?_
  by_cases c0 : p1 = (-7 : Int32)
  · rw [if_pos c0] at hf
    refine z_tableIn 44 dX5_result_1 (by rw [c0]; decide) (by rw [c0]; decide) (by rw [c0]; rfl) (by decide) ?_
    refine z_lload_n 1 dX5_result_44 rfl rfl ?_
    refine z_lload_n 2 dX5_result_45 rfl rfl ?_
    refine z_lmul dX5_result_46 ?_
    refine z_lstore [(5, .long (p2 * p3)), (0, .int p1), (1, .long p2), (3, .long p3)] dX5_result_47 (by decide) rfl ?_
    refine z_goto 67 dX5_result_49 (by decide) ?_
    exact Z.sub [0] rfl (zj_X5_result_67 hd hf)
  · rw [if_neg c0] at hf
    by_cases c1 : p1 = (-6 : Int32)
    · rw [if_pos c1] at hf
      refine z_tableIn 36 dX5_result_1 (by rw [c1]; decide) (by rw [c1]; decide) (by rw [c1]; rfl) (by decide) ?_
      refine z_lload_n 1 dX5_result_36 rfl rfl ?_
      refine z_lload_n 2 dX5_result_37 rfl rfl ?_
      refine z_lsub dX5_result_38 ?_
      refine z_lstore [(5, .long (p2 - p3)), (0, .int p1), (1, .long p2), (3, .long p3)] dX5_result_39 (by decide) rfl ?_
      refine z_goto 67 dX5_result_41 (by decide) ?_
      exact Z.sub [0] rfl (zj_X5_result_67 hd hf)
    · rw [if_neg c1] at hf
      by_cases c2 : p1 = (-5 : Int32)
      · rw [if_pos c2] at hf
        refine z_tableIn 28 dX5_result_1 (by rw [c2]; decide) (by rw [c2]; decide) (by rw [c2]; rfl) (by decide) ?_
        refine z_lload_n 1 dX5_result_28 rfl rfl ?_
        refine z_lload_n 2 dX5_result_29 rfl rfl ?_
        refine z_ladd dX5_result_30 ?_
        refine z_lstore [(5, .long (p2 + p3)), (0, .int p1), (1, .long p2), (3, .long p3)] dX5_result_31 (by decide) rfl ?_
        refine z_goto 67 dX5_result_33 (by decide) ?_
        exact Z.sub [0] rfl (zj_X5_result_67 hd hf)
      · rw [if_neg c2] at hf
        refine z_tableOut 52 dX5_result_1 (by have q := z_sw_out (x := p1) (lo := (-7 : Int)) (n := 3) (by decide) (by decide) (lt_s (i := 2) (lt_s (i := 1) (lt_s (i := 0) lt_0 (fun e => c0 (e.trans (by decide)))) (fun e => c1 (e.trans (by decide)))) (fun e => c2 (e.trans (by decide)))); omega) (by decide) ?_
        refine z_lload_n 2 dX5_result_52 rfl rfl ?_
        refine z_lconst (0 : Int64) dX5_result_53 (by decide) ?_
        refine z_lcmp dX5_result_54 ?_
        refine z_if_ne 62 dX5_result_55 (by decide) hf (fun hf => ?_) (fun hf => ?_)
        · refine z_lconst (0 : Int64) dX5_result_58 (by decide) ?_
          refine z_goto 65 dX5_result_59 (by decide) ?_
          exact Z.sub [] rfl (zj_X5_result_65 hd hf)
        · refine z_lload_n 1 dX5_result_62 rfl rfl ?_
          refine z_lload_n 2 dX5_result_63 rfl rfl ?_
          refine z_ldiv dX5_result_64 hf fun x3 hf => ?_
          exact Z.sub [] rfl (zj_X5_result_65 hd hf)
set_option maxRecDepth 4000 in
theorem zc_X5_operand {Γ : zG} {N d : Nat} (hd : 10 ≤ d) {p1 : Int32} {p2 : Int32} {p3 : Int32} {p4 : Int32} {p5 : Int32} {h : zH} {w : Int32 × zH} (hf : f_X5_operand N p1 p2 p3 p4 p5 h = some w) : Zm Γ m_X5_operand d [.int p1, .int p2, .int p3, .int p4, .int p5] h (zoI w) := by
  unfold f_X5_operand at hf
  refine z_meth rfl (plainFor_of_name wpl_X5) (by simp [lg_sl, Value.category, zml, m_X5_operand]) ?_
  refine z_iload_n 0 dX5_operand_0 rfl rfl ?_
  by_cases c0 : p1 = (-4 : Int32)
  · rw [if_pos c0] at hf
    refine z_tableIn 38 dX5_operand_1 (by rw [c0]; decide) (by rw [c0]; decide) (by rw [c0]; rfl) (by decide) ?_
    refine z_iload 4 dX5_operand_38 rfl ?_
    exact z_iret dX5_operand_40 rfl (by cases hf; rfl)
  · rw [if_neg c0] at hf
    by_cases c1 : p1 = (-3 : Int32)
    · rw [if_pos c1] at hf
      refine z_tableIn 36 dX5_operand_1 (by rw [c1]; decide) (by rw [c1]; decide) (by rw [c1]; rfl) (by decide) ?_
      refine z_iload_n 3 dX5_operand_36 rfl rfl ?_
      exact z_iret dX5_operand_37 rfl (by cases hf; rfl)
    · rw [if_neg c1] at hf
      by_cases c2 : p1 = (-2 : Int32)
      · rw [if_pos c2] at hf
        refine z_tableIn 34 dX5_operand_1 (by rw [c2]; decide) (by rw [c2]; decide) (by rw [c2]; rfl) (by decide) ?_
        refine z_iload_n 2 dX5_operand_34 rfl rfl ?_
        exact z_iret dX5_operand_35 rfl (by cases hf; rfl)
      · rw [if_neg c2] at hf
        by_cases c3 : p1 = (-1 : Int32)
        · rw [if_pos c3] at hf
          refine z_tableIn 32 dX5_operand_1 (by rw [c3]; decide) (by rw [c3]; decide) (by rw [c3]; rfl) (by decide) ?_
          refine z_iload_n 1 dX5_operand_32 rfl rfl ?_
          exact z_iret dX5_operand_33 rfl (by cases hf; rfl)
        · rw [if_neg c3] at hf
          refine z_tableOut 41 dX5_operand_1 (by have q := z_sw_out (x := p1) (lo := (-4 : Int)) (n := 4) (by decide) (by decide) (lt_s (i := 3) (lt_s (i := 2) (lt_s (i := 1) (lt_s (i := 0) lt_0 (fun e => c0 (e.trans (by decide)))) (fun e => c1 (e.trans (by decide)))) (fun e => c2 (e.trans (by decide)))) (fun e => c3 (e.trans (by decide)))); omega) (by decide) ?_
          refine z_iload_n 0 dX5_operand_41 rfl rfl ?_
          exact z_iret dX5_operand_42 rfl (by cases hf; rfl)
set_option maxRecDepth 4000 in
theorem zl_X5_price_6 {Γ : zG} {N d : Nat} {h0 : zH} (hd : 12 ≤ d) {v0 : Nat} {v1 : Int32} {v2 : Int32} {v3 : Int32} {v4 : Int32} {k1 : zH → Option (Int32 × zH)} {w : Int32 × zH}  (hk1 : ∀ (h : zH), k1 h = some w → Z Γ m_X5_price d h0 (zoI w) 115 [(0, .ref v0)] [] h) : ∀ (n : Nat) (v5 : Int32) (v6 : Int32) (h : zH), f_X5_price_l6 N v0 v1 v2 v3 v4 k1 n v5 v6 h = some w → Z Γ m_X5_price d h0 (zoI w) 6 [(0, .ref v0), (1, .int v1), (2, .int v2), (3, .int v3), (4, .int v4), (5, .int v5), (6, .int v6)] [] h := by
  intro n
  induction n with
  | zero => intro v5 v6 h hf; cases hf
  | succ n ih =>
    intro v5 v6 h hf
    rw [f_X5_price_l6] at hf
    refine z_iload 6 dX5_price_6 rfl ?_
    refine z_aload_n 0 dX5_price_8 rfl rfl ?_
    refine z_getA dX5_price_9 zc5 (by decide) wf_X5_9 hf fun x1 hf => ?_
    refine z_alen dX5_price_12 hf fun x2 hf => ?_
    refine z_icmp_ge 115 dX5_price_13 (by decide) hf (fun hf => ?_) (fun hf => ?_)
    · exact Z.sub [0] rfl (hk1 h hf)
    · refine z_aload_n 0 dX5_price_16 rfl rfl ?_
      refine z_getA dX5_price_17 zc5 (by decide) wf_X5_9 hf fun x3 hf => ?_
      refine z_iload 6 dX5_price_20 rfl ?_
      refine z_iaload dX5_price_22 hf fun x4 hf => ?_
      refine z_istore [(7, .int x4), (0, .ref v0), (1, .int v1), (2, .int v2), (3, .int v3), (4, .int v4), (5, .int v5), (6, .int v6)] dX5_price_23 (by decide) rfl ?_
      refine z_iload 0 dX5_price_25 rfl ?_
      refine z_bipush (-5 : Int32) dX5_price_27 (by decide) ?_
      refine zjn_elim (P := fun (j109 : Int32 → Int32 → zH → Option (Int32 × zH)) => ∀ (v5 : Int32) (v6 : Int32) (h : zH), j109 v5 v6 h = some w → Z Γ m_X5_price d h0 (zoI w) 109 [(0, .ref v0), (1, .int v1), (2, .int v2), (3, .int v3), (4, .int v4), (5, .int v5), (6, .int v6)] [] h) hf (fun v5 v6 h hf => ?_) (fun j109 hj109 hf => ?_)
      · refine z_iinc (v6 + (1 : Int32)) 6 [(6, .int (v6 + (1 : Int32))), (0, .ref v0), (1, .int v1), (2, .int v2), (3, .int v3), (4, .int v4), (5, .int v5)] dX5_price_109 rfl rfl (by decide) rfl ?_
        refine z_goto 6 dX5_price_112 (by decide) ?_
        exact Z.sub [1, 2, 3, 4, 5, 6, 0] rfl (ih v5 (v6 + (1 : Int32)) h hf)
      · refine z_icmp_gt 81 dX5_price_29 (by decide) hf (fun hf => ?_) (fun hf => ?_)
        · refine z_iload 6 dX5_price_81 rfl ?_
          refine z_bipush (11 : Int32) dX5_price_83 (by decide) ?_
          refine z_icmp_ge 109 dX5_price_85 (by decide) hf (fun hf => ?_) (fun hf => ?_)
          · exact Z.sub [1, 2, 3, 4, 5, 6, 7] rfl (hj109 v5 v6 h hf)
          · refine z_aload_n 1 dX5_price_88 rfl rfl ?_
            refine z_getA dX5_price_89 zc5 (by decide) wf_X5_15 hf fun x5 hf => ?_
            refine z_iload 6 dX5_price_92 rfl ?_
            refine z_iload 0 dX5_price_94 rfl ?_
            refine z_iload_n 2 dX5_price_96 rfl rfl ?_
            refine z_iload_n 3 dX5_price_97 rfl rfl ?_
            refine z_iload_n 4 dX5_price_98 rfl rfl ?_
            refine z_iload 5 dX5_price_99 rfl ?_
            refine z_cS_i (d' := d - 1) (As := [.int x4, .int v1, .int v2, .int v3, .int v4]) (rest := [.int v5, .ref x5]) dX5_price_101 lk_X5_23 hf (fun w1 e1 => zc_X5_operand (by omega) e1) (by omega) rfl rfl (Nat.le_of_ble_eq_true rfl) fun y6 hf => ?_
            refine z_i2l dX5_price_104 ?_
            refine z_lastore dX5_price_105 hf fun h7 hf => ?_
            refine z_iinc (v5 + (1 : Int32)) 6 [(5, .int (v5 + (1 : Int32))), (7, .int x4), (0, .ref v0), (1, .int v1), (2, .int v2), (3, .int v3), (4, .int v4), (6, .int v6)] dX5_price_106 rfl rfl (by decide) rfl ?_
            exact Z.sub [2, 3, 4, 5, 6, 0, 7] rfl (hj109 (v5 + (1 : Int32)) v6 h7 hf)
        · refine z_iload 6 dX5_price_32 rfl ?_
          refine z_iconst (2 : Int32) dX5_price_34 (by decide) ?_
          refine z_icmp_lt 109 dX5_price_35 (by decide) hf (fun hf => ?_) (fun hf => ?_)
          · exact Z.sub [1, 2, 3, 4, 5, 6, 7] rfl (hj109 v5 v6 h hf)
          · refine z_iload 6 dX5_price_38 rfl ?_
            refine z_bipush (11 : Int32) dX5_price_40 (by decide) ?_
            refine z_icmp_gt 109 dX5_price_42 (by decide) hf (fun hf => ?_) (fun hf => ?_)
            · exact Z.sub [1, 2, 3, 4, 5, 6, 7] rfl (hj109 v5 v6 h hf)
            · refine z_iinc (v5 + (-1 : Int32)) 6 [(5, .int (v5 + (-1 : Int32))), (7, .int x4), (0, .ref v0), (1, .int v1), (2, .int v2), (3, .int v3), (4, .int v4), (6, .int v6)] dX5_price_45 rfl rfl (by decide) rfl ?_
              refine z_aload_n 2 dX5_price_48 rfl rfl ?_
              refine z_getA dX5_price_49 zc5 (by decide) wf_X5_15 hf fun x8 hf => ?_
              refine z_iload 0 dX5_price_52 rfl ?_
              refine z_iconst (1 : Int32) dX5_price_54 (by decide) ?_
              refine z_isub dX5_price_55 ?_
              refine z_iload 1 dX5_price_56 rfl ?_
              refine z_aload_n 2 dX5_price_58 rfl rfl ?_
              refine z_getA dX5_price_59 zc5 (by decide) wf_X5_15 hf fun x9 hf => ?_
              refine z_iload 0 dX5_price_62 rfl ?_
              refine z_iconst (1 : Int32) dX5_price_64 (by decide) ?_
              refine z_isub dX5_price_65 ?_
              refine z_laload dX5_price_66 hf fun x10 hf => ?_
              refine z_aload_n 2 dX5_price_67 rfl rfl ?_
              refine z_getA dX5_price_68 zc5 (by decide) wf_X5_15 hf fun x11 hf => ?_
              refine z_iload 0 dX5_price_71 rfl ?_
              refine z_laload dX5_price_73 hf fun x12 hf => ?_
              refine z_cS_j (d' := d - 1) (As := [.int x4, .long x10, .long x12]) (rest := [.int ((v5 + (-1 : Int32)) - (1 : Int32)), .ref x8]) dX5_price_74 lk_X5_19 hf (fun w1 e1 => zc_X5_result (by omega) e1) (by omega) rfl rfl (Nat.le_of_ble_eq_true rfl) fun y13 hf => ?_
              refine z_lastore dX5_price_77 hf fun h14 hf => ?_
              refine z_goto 109 dX5_price_78 (by decide) ?_
              exact Z.sub [2, 3, 4, 5, 6, 0, 7] rfl (hj109 (v5 + (-1 : Int32)) v6 h14 hf)
set_option maxRecDepth 4000 in
theorem zc_X5_price {Γ : zG} {N d : Nat} (hd : 12 ≤ d) {a : Nat} {p1 : Int32} {p2 : Int32} {p3 : Int32} {p4 : Int32} {h : zH} {w : Int32 × zH} (hf : f_X5_price N a p1 p2 p3 p4 h = some w) : Zm Γ m_X5_price d [.ref a, .int p1, .int p2, .int p3, .int p4] h (zoI w) := by
  unfold f_X5_price at hf
  refine z_meth rfl (plainFor_of_name wpl_X5) (by simp [lg_sl, Value.category, zml, m_X5_price]) ?_
  refine z_iconst (0 : Int32) dX5_price_0 (by decide) ?_
  refine z_istore [(5, .int (0 : Int32)), (0, .ref a), (1, .int p1), (2, .int p2), (3, .int p3), (4, .int p4)] dX5_price_1 (by decide) rfl ?_
  refine z_iconst (0 : Int32) dX5_price_3 (by decide) ?_
  refine z_istore [(6, .int (0 : Int32)), (5, .int (0 : Int32)), (0, .ref a), (1, .int p1), (2, .int p2), (3, .int p3), (4, .int p4)] dX5_price_4 (by decide) rfl ?_
  refine Z.sub [2, 3, 4, 5, 6, 1, 0] rfl (zl_X5_price_6 hd (fun h15 hf => ?_) N (0 : Int32) (0 : Int32) h hf)
  · refine z_lconst (0 : Int64) dX5_price_115 (by decide) ?_
    refine z_ldc2 (9999 : Int64) dX5_price_116 wk_X5_27 ?_
    refine z_aload_n 0 dX5_price_119 rfl rfl ?_
    refine z_getA dX5_price_120 zc5 (by decide) wf_X5_15 hf fun x16 hf => ?_
    refine z_iconst (0 : Int32) dX5_price_123 (by decide) ?_
    refine z_laload dX5_price_124 hf fun x17 hf => ?_
    refine z_cS_j (d' := d - 1) (As := [.long (9999 : Int64), .long x17]) (rest := [.long (0 : Int64)]) dX5_price_125 lk_X5_29 hf (fun w1 e1 => zc_J9_min_f86c9 (by omega) e1) (by omega) rfl rfl (Nat.le_of_ble_eq_true rfl) fun y18 hf => ?_
    refine z_cS_j (d' := d - 1) (As := [.long (0 : Int64), .long y18.1]) (rest := []) dX5_price_128 lk_X5_35 hf (fun w1 e1 => zc_J9_max_f86c9 (by omega) e1) (by omega) rfl rfl (Nat.le_of_ble_eq_true rfl) fun y19 hf => ?_
    refine z_l2i dX5_price_131 ?_
    exact z_iret dX5_price_132 rfl (by cases hf; rfl)
set_option maxRecDepth 4000 in
theorem zc_X0_priceOf {Γ : zG} {N d : Nat} (hd : 13 ≤ d) {a : Nat} {p1 : Nat} {p2 : Int32} {h : zH} {w : Int32 × zH} (hf : f_X0_priceOf N a p1 p2 h = some w) : Zm Γ m_X0_priceOf d [.ref a, .ref p1, .int p2] h (zoI w) := by
  unfold f_X0_priceOf at hf
  refine z_meth rfl (plainFor_of_name wpl_X0) (by simp [lg_sl, Value.category, zml, m_X0_priceOf]) ?_
  refine z_aload_n 0 dX0_priceOf_0 rfl rfl ?_
  refine z_getA dX0_priceOf_1 zc0 (by decide) wf_X0_9 hf fun x1 hf => ?_
  refine z_aload_n 1 dX0_priceOf_4 rfl rfl ?_
  refine z_getA dX0_priceOf_5 zc1 (by decide) wf_X0_114 hf fun x2 hf => ?_
  refine z_iload_n 2 dX0_priceOf_8 rfl rfl ?_
  refine z_cV_i (d' := d - 1) (As := [.int p2]) (rest := [.ref x1]) dX0_priceOf_9 lk_X0_94 rfl hf (fun w1 e1 => zc_X6_at (by omega) e1) (by omega) rfl rfl (Nat.le_of_ble_eq_true rfl) fun y3 hf => ?_
  refine z_cV_i (d' := d - 1) (As := [.int y3.1]) (rest := []) dX0_priceOf_12 lk_X0_117 rfl hf (fun w1 e1 => zc_X2_period (by omega) e1) (by omega) rfl rfl (Nat.le_of_ble_eq_true rfl) fun y4 hf => ?_
  refine z_istore_n [(3, .int y4.1), (0, .ref a), (1, .ref p1), (2, .int p2)] dX0_priceOf_15 rfl (by decide) rfl ?_
  refine z_aload_n 1 dX0_priceOf_16 rfl rfl ?_
  refine z_getA dX0_priceOf_17 zc0 (by decide) wf_X0_49 hf fun x5 hf => ?_
  refine z_aload_n 2 dX0_priceOf_20 rfl rfl ?_
  refine z_getA dX0_priceOf_21 zc1 (by decide) wf_X0_120 hf fun x6 hf => ?_
  refine z_iload_n 3 dX0_priceOf_24 rfl rfl ?_
  refine z_cV_i (d' := d - 1) (As := [.int p2]) (rest := [.ref x5]) dX0_priceOf_25 lk_X0_94 rfl hf (fun w1 e1 => zc_X6_at (by omega) e1) (by omega) rfl rfl (Nat.le_of_ble_eq_true rfl) fun y7 hf => ?_
  refine z_iload_n 0 dX0_priceOf_28 rfl rfl ?_
  refine z_aload_n 1 dX0_priceOf_29 rfl rfl ?_
  refine z_getA dX0_priceOf_30 zc0 (by decide) wf_X0_34 hf fun x8 hf => ?_
  refine z_cV_i (d' := d - 1) (As := []) (rest := [.int y4.1, .int y7.1, .ref x5]) dX0_priceOf_33 lk_X0_104 rfl hf (fun w1 e1 => zc_X6_size (by omega) e1) (by omega) rfl rfl (Nat.le_of_ble_eq_true rfl) fun y9 hf => ?_
  refine z_aload_n 1 dX0_priceOf_36 rfl rfl ?_
  refine z_getI dX0_priceOf_37 zc0 (by decide) wf_X0_81 hf fun x10 hf => ?_
  refine z_cV_i (d' := d - 1) (As := [.int y7.1, .int y4.1, .int y9.1, .int x10]) (rest := []) dX0_priceOf_40 lk_X0_123 rfl hf (fun w1 e1 => zc_X5_price (by omega) e1) (by omega) rfl rfl (Nat.le_of_ble_eq_true rfl) fun y11 hf => ?_
  exact z_iret dX0_priceOf_43 rfl (by cases hf; rfl)
set_option maxRecDepth 4000 in
theorem zc_X8_card {Γ : zG} {N d : Nat} (hd : 14 ≤ d) {a : Nat} {p1 : Int32} {p2 : Int32} {p3 : Int32} {h : zH} {w : (Int32 ⊕ Nat) × zH} (hf : f_X8_card N a p1 p2 p3 h = some w) : Zm Γ m_X8_card d [.ref a, .int p1, .int p2, .int p3] h (zoTI w) := by
  unfold f_X8_card at hf
  refine z_meth rfl (plainFor_of_name wpl_X8) (by simp [lg_sl, Value.category, zml, m_X8_card]) ?_
  refine z_aload_n 0 dX8_card_0 rfl rfl ?_
  refine z_iload_n 1 dX8_card_1 rfl rfl ?_
  refine z_cV_ta (d' := d - 1) (As := [.int p1]) (rest := []) dX8_card_2 lk_X8_119 rfl hf (fun w1 e1 => zc_X8_existing (by omega) e1) (by omega) rfl rfl (Nat.le_of_ble_eq_true rfl) (fun y1 x2 hf => ?_) (fun y1 k3 hf => ?_)
  · refine z_astore [(4, .ref x2), (0, .ref a), (1, .int p1), (2, .int p2), (3, .int p3)] dX8_card_5 (by decide) rfl ?_
    refine z_aload 0 dX8_card_7 rfl ?_
    refine z_getA dX8_card_9 zc1 (by decide) wf_X8_128 hf fun x4 hf => ?_
    refine z_iload_n 3 dX8_card_12 rfl rfl ?_
    refine z_cV_i (d' := d - 1) (As := [.int p2]) (rest := []) dX8_card_13 lk_X8_134 rfl hf (fun w1 e1 => zc_X6_holds (by omega) e1) (by omega) rfl rfl (Nat.le_of_ble_eq_true rfl) fun y5 hf => ?_
    refine z_if_ne 27 dX8_card_16 (by decide) hf (fun hf => ?_) (fun hf => ?_)
    · exact z_throw 3 (by decide) dX8_card_19 dX8_card_22 dX8_card_23 dX8_card_26 wc_X8_138 wi_x3 wx_X8_140a wx_X8_140b (by omega) rfl (Nat.le_of_ble_eq_true rfl) (by cases hf; rfl)
    · refine z_iload_n 4 dX8_card_27 rfl rfl ?_
      by_cases c0 : p3 = (0 : Int32)
      · rw [if_pos c0] at hf
        refine z_tableIn 56 dX8_card_28 (by rw [c0]; decide) (by rw [c0]; decide) (by rw [c0]; rfl) (by decide) ?_
        refine z_aload_n 1 dX8_card_56 rfl rfl ?_
        refine z_aload 0 dX8_card_57 rfl ?_
        refine z_getA dX8_card_59 zc1 (by decide) wf_X8_128 hf fun x6 hf => ?_
        refine z_iload_n 3 dX8_card_62 rfl rfl ?_
        refine z_cV_i (d' := d - 1) (As := [.int p2]) (rest := [.ref a]) dX8_card_63 lk_X8_141 rfl hf (fun w1 e1 => zc_X6_at (by omega) e1) (by omega) rfl rfl (Nat.le_of_ble_eq_true rfl) fun y7 hf => ?_
        refine z_cV_i (d' := d - 1) (As := [.int y7.1]) (rest := []) dX8_card_66 lk_X8_144 rfl hf (fun w1 e1 => zc_X8_numberOf (by omega) e1) (by omega) rfl rfl (Nat.le_of_ble_eq_true rfl) fun y8 hf => ?_
        exact z_iret dX8_card_69 rfl (by cases hf; rfl)
      · rw [if_neg c0] at hf
        by_cases c1 : p3 = (1 : Int32)
        · rw [if_pos c1] at hf
          refine z_tableIn 70 dX8_card_28 (by rw [c1]; decide) (by rw [c1]; decide) (by rw [c1]; rfl) (by decide) ?_
          refine z_aload 0 dX8_card_70 rfl ?_
          refine z_getA dX8_card_72 zc1 (by decide) wf_X8_147 hf fun x9 hf => ?_
          refine z_iload_n 3 dX8_card_75 rfl rfl ?_
          refine z_cV_i (d' := d - 1) (As := [.int p2]) (rest := []) dX8_card_76 lk_X8_141 rfl hf (fun w1 e1 => zc_X6_at (by omega) e1) (by omega) rfl rfl (Nat.le_of_ble_eq_true rfl) fun y10 hf => ?_
          exact z_iret dX8_card_79 rfl (by cases hf; rfl)
        · rw [if_neg c1] at hf
          by_cases c2 : p3 = (2 : Int32)
          · rw [if_pos c2] at hf
            refine z_tableIn 80 dX8_card_28 (by rw [c2]; decide) (by rw [c2]; decide) (by rw [c2]; rfl) (by decide) ?_
            refine z_aload_n 1 dX8_card_80 rfl rfl ?_
            refine z_getA dX8_card_81 zc8 (by decide) wf_X8_28 hf fun x11 hf => ?_
            refine z_aload 0 dX8_card_84 rfl ?_
            refine z_iload_n 3 dX8_card_86 rfl rfl ?_
            refine z_cV_i (d' := d - 1) (As := [.ref x2, .int p2]) (rest := []) dX8_card_87 lk_X8_150 rfl hf (fun w1 e1 => zc_X0_priceOf (by omega) e1) (by omega) rfl rfl (Nat.le_of_ble_eq_true rfl) fun y12 hf => ?_
            exact z_iret dX8_card_90 rfl (by cases hf; rfl)
          · rw [if_neg c2] at hf
            refine z_tableOut 91 dX8_card_28 (by have q := z_sw_out (x := p3) (lo := (0 : Int)) (n := 3) (by decide) (by decide) (lt_s (i := 2) (lt_s (i := 1) (lt_s (i := 0) lt_0 (fun e => c0 (e.trans (by decide)))) (fun e => c1 (e.trans (by decide)))) (fun e => c2 (e.trans (by decide)))); omega) (by decide) ?_
            exact z_throw 1 (by decide) dX8_card_91 dX8_card_94 dX8_card_95 dX8_card_98 wc_X8_62 wi_x1 wx_X8_64a wx_X8_64b (by omega) rfl (Nat.le_of_ble_eq_true rfl) (by cases hf; rfl)
  · exact zx_out rfl (by cases hf; rfl)
set_option maxRecDepth 4000 in
theorem zc_L_card {Γ : zG} {N d : Nat} (hd : 15 ≤ d) {p1 : Nat} {p2 : Int32} {p3 : Int32} {p4 : Int32} {p5 : Nat} {h : zH} {w : Int32 × zH} (hf : f_L_card N p1 p2 p3 p4 p5 h = some w) : Zm Γ m_L_card d [.ref p1, .int p2, .int p3, .int p4, .ref p5] h (zoI w) := by
  unfold f_L_card at hf
  refine z_methH (by decide) (by decide +kernel) (by simp [lg_sl, Value.category, zml, m_L_card]) ?_
  refine z_aload 4 dL_card_0 rfl ?_
  refine z_iconst (0 : Int32) dL_card_2 (by decide) ?_
  refine z_aload_n 0 dL_card_3 rfl rfl ?_
  refine z_iload_n 1 dL_card_4 rfl rfl ?_
  refine z_iload_n 2 dL_card_5 rfl rfl ?_
  refine z_iload_n 3 dL_card_6 rfl rfl ?_
  refine z_cV_ti (d' := d - 1) (As := [.int p2, .int p3, .int p4]) (rest := [.int (0 : Int32), .ref p5]) dL_card_7 lk_L_24 rfl hf (fun w1 e1 => zc_X8_card (by omega) e1) (by omega) rfl rfl (Nat.le_of_ble_eq_true rfl) (fun y1 x2 hf => ?_) (fun y1 k3 hf => ?_)
  · refine z_i2l dL_card_10 ?_
    refine z_lastore dL_card_11 hf fun h4 hf => ?_
    refine z_goto 27 dL_card_12 (by decide) ?_
    refine z_iconst (0 : Int32) dL_card_27 (by decide) ?_
    exact z_iret dL_card_28 rfl (by cases hf; rfl)
  · by_cases e0 : k3 = 2
    · rw [if_pos e0] at hf
      subst e0
      refine zx_catch (by decide) [] (0, 12, 15, 22) [(0, 12, 19, 28), (0, 12, 23, 13)] rfl (fun z hz => absurd hz List.not_mem_nil) (by decide) (by decide) wc_L_22 wct_2 fun q5 => ?_
      refine z_astore [(5, .ref q5), (0, .ref p1), (1, .int p2), (2, .int p3), (3, .int p4), (4, .ref p5)] dL_card_15 (by decide) rfl ?_
      refine z_iconst (1 : Int32) dL_card_17 (by decide) ?_
      exact z_iret dL_card_18 rfl (by cases hf; rfl)
    · rw [if_neg e0] at hf
      by_cases e1 : k3 = 3
      · rw [if_pos e1] at hf
        subst e1
        refine zx_catch (by decide) [(0, 12, 15, 22)] (0, 12, 19, 28) [(0, 12, 23, 13)] rfl (List.forall_mem_cons.mpr ⟨⟨by decide, 2, by decide, by decide, wc_L_22⟩, fun z hz => absurd hz List.not_mem_nil⟩) (by decide) (by decide) wc_L_28 wct_3 fun q6 => ?_
        refine z_astore [(5, .ref q6), (0, .ref p1), (1, .int p2), (2, .int p3), (3, .int p4), (4, .ref p5)] dL_card_19 (by decide) rfl ?_
        refine z_iconst (2 : Int32) dL_card_21 (by decide) ?_
        exact z_iret dL_card_22 rfl (by cases hf; rfl)
      · rw [if_neg e1] at hf
        by_cases e2 : k3 = 1
        · rw [if_pos e2] at hf
          subst e2
          refine zx_catch (by decide) [(0, 12, 15, 22), (0, 12, 19, 28)] (0, 12, 23, 13) [] rfl (List.forall_mem_cons.mpr ⟨⟨by decide, 2, by decide, by decide, wc_L_22⟩, List.forall_mem_cons.mpr ⟨⟨by decide, 3, by decide, by decide, wc_L_28⟩, fun z hz => absurd hz List.not_mem_nil⟩⟩) (by decide) (by decide) wc_L_13 wct_1 fun q7 => ?_
          refine z_astore [(5, .ref q7), (0, .ref p1), (1, .int p2), (2, .int p3), (3, .int p4), (4, .ref p5)] dL_card_23 (by decide) rfl ?_
          refine z_iconst (3 : Int32) dL_card_25 (by decide) ?_
          exact z_iret dL_card_26 rfl (by cases hf; rfl)
        · rw [if_neg e2] at hf
          cases hf
set_option maxRecDepth 4000 in
theorem zc_X9_cardsOf {Γ : zG} {N d : Nat} (hd : 11 ≤ d) {a : Nat} {p1 : Int32} {h : zH} {w : Int32 × zH} (hf : f_X9_cardsOf N a p1 h = some w) : Zm Γ m_X9_cardsOf d [.ref a, .int p1] h (zoI w) := by
  unfold f_X9_cardsOf at hf
  refine z_meth rfl (plainFor_of_name wpl_X9) (by simp [lg_sl, Value.category, zml, m_X9_cardsOf]) ?_
  refine z_aload_n 0 dX9_cardsOf_0 rfl rfl ?_
  refine z_getA dX9_cardsOf_1 zc9 (by decide) wf_X9_17 hf fun x1 hf => ?_
  refine z_iload_n 1 dX9_cardsOf_4 rfl rfl ?_
  refine z_cS_i (d' := d - 1) (As := [.int p1]) (rest := [.ref x1]) dX9_cardsOf_5 lk_X9_201 hf (fun w1 e1 => zc_X9_at (by omega) e1) (by omega) rfl rfl (Nat.le_of_ble_eq_true rfl) fun y2 hf => ?_
  refine z_iconst (1 : Int32) dX9_cardsOf_8 (by decide) ?_
  refine z_iadd dX9_cardsOf_9 ?_
  refine z_iaload dX9_cardsOf_10 hf fun x3 hf => ?_
  exact z_iret dX9_cardsOf_11 rfl (by cases hf; rfl)
set_option maxRecDepth 4000 in
theorem zc_X9_elementOf {Γ : zG} {N d : Nat} (hd : 11 ≤ d) {a : Nat} {p1 : Int32} {p2 : Int32} {h : zH} {w : Int32 × zH} (hf : f_X9_elementOf N a p1 p2 h = some w) : Zm Γ m_X9_elementOf d [.ref a, .int p1, .int p2] h (zoI w) := by
  unfold f_X9_elementOf at hf
  refine z_meth rfl (plainFor_of_name wpl_X9) (by simp [lg_sl, Value.category, zml, m_X9_elementOf]) ?_
  refine z_aload_n 0 dX9_elementOf_0 rfl rfl ?_
  refine z_getA dX9_elementOf_1 zc9 (by decide) wf_X9_17 hf fun x1 hf => ?_
  refine z_iload_n 1 dX9_elementOf_4 rfl rfl ?_
  refine z_cS_i (d' := d - 1) (As := [.int p1]) (rest := [.ref x1]) dX9_elementOf_5 lk_X9_201 hf (fun w1 e1 => zc_X9_at (by omega) e1) (by omega) rfl rfl (Nat.le_of_ble_eq_true rfl) fun y2 hf => ?_
  refine z_iconst (3 : Int32) dX9_elementOf_8 (by decide) ?_
  refine z_iadd dX9_elementOf_9 ?_
  refine z_iconst (2 : Int32) dX9_elementOf_10 (by decide) ?_
  refine z_iload_n 2 dX9_elementOf_11 rfl rfl ?_
  refine z_imul dX9_elementOf_12 ?_
  refine z_iadd dX9_elementOf_13 ?_
  refine z_iaload dX9_elementOf_14 hf fun x3 hf => ?_
  exact z_iret dX9_elementOf_15 rfl (by cases hf; rfl)
set_option maxRecDepth 4000 in
theorem zc_X9_baseOf {Γ : zG} {N d : Nat} (hd : 11 ≤ d) {a : Nat} {p1 : Int32} {p2 : Int32} {h : zH} {w : Int32 × zH} (hf : f_X9_baseOf N a p1 p2 h = some w) : Zm Γ m_X9_baseOf d [.ref a, .int p1, .int p2] h (zoI w) := by
  unfold f_X9_baseOf at hf
  refine z_meth rfl (plainFor_of_name wpl_X9) (by simp [lg_sl, Value.category, zml, m_X9_baseOf]) ?_
  refine z_aload_n 0 dX9_baseOf_0 rfl rfl ?_
  refine z_getA dX9_baseOf_1 zc9 (by decide) wf_X9_17 hf fun x1 hf => ?_
  refine z_iload_n 1 dX9_baseOf_4 rfl rfl ?_
  refine z_cS_i (d' := d - 1) (As := [.int p1]) (rest := [.ref x1]) dX9_baseOf_5 lk_X9_201 hf (fun w1 e1 => zc_X9_at (by omega) e1) (by omega) rfl rfl (Nat.le_of_ble_eq_true rfl) fun y2 hf => ?_
  refine z_iconst (3 : Int32) dX9_baseOf_8 (by decide) ?_
  refine z_iadd dX9_baseOf_9 ?_
  refine z_iconst (2 : Int32) dX9_baseOf_10 (by decide) ?_
  refine z_iload_n 2 dX9_baseOf_11 rfl rfl ?_
  refine z_imul dX9_baseOf_12 ?_
  refine z_iadd dX9_baseOf_13 ?_
  refine z_iconst (1 : Int32) dX9_baseOf_14 (by decide) ?_
  refine z_iadd dX9_baseOf_15 ?_
  refine z_iaload dX9_baseOf_16 hf fun x3 hf => ?_
  exact z_iret dX9_baseOf_17 rfl (by cases hf; rfl)
set_option maxRecDepth 4000 in
theorem zc_X9_neutral {Γ : zG} {N d : Nat} (hd : 10 ≤ d) {p1 : Int32} {h : zH} {w : Int32 × zH} (hf : f_X9_neutral N p1 h = some w) : Zm Γ m_X9_neutral d [.int p1] h (zoI w) := by
  unfold f_X9_neutral at hf
  refine z_meth rfl (plainFor_of_name wpl_X9) (by simp [lg_sl, Value.category, zml, m_X9_neutral]) ?_
  refine z_iload_n 0 dX9_neutral_0 rfl rfl ?_
  refine z_iconst (2 : Int32) dX9_neutral_1 (by decide) ?_
  refine z_icmp_ne 10 dX9_neutral_2 (by decide) hf (fun hf => ?_) (fun hf => ?_)
  · refine z_bipush (12 : Int32) dX9_neutral_5 (by decide) ?_
    refine z_goto 34 dX9_neutral_7 (by decide) ?_
    exact z_iret dX9_neutral_34 rfl (by cases hf; rfl)
  · refine z_iload_n 0 dX9_neutral_10 rfl rfl ?_
    refine z_iconst (3 : Int32) dX9_neutral_11 (by decide) ?_
    refine z_icmp_ne 20 dX9_neutral_12 (by decide) hf (fun hf => ?_) (fun hf => ?_)
    · refine z_bipush (123 : Int32) dX9_neutral_15 (by decide) ?_
      refine z_goto 34 dX9_neutral_17 (by decide) ?_
      exact z_iret dX9_neutral_34 rfl (by cases hf; rfl)
    · refine z_iload_n 0 dX9_neutral_20 rfl rfl ?_
      refine z_iconst (4 : Int32) dX9_neutral_21 (by decide) ?_
      refine z_icmp_ne 31 dX9_neutral_22 (by decide) hf (fun hf => ?_) (fun hf => ?_)
      · refine z_sipush (1234 : Int32) dX9_neutral_25 (by decide) ?_
        refine z_goto 34 dX9_neutral_28 (by decide) ?_
        exact z_iret dX9_neutral_34 rfl (by cases hf; rfl)
      · refine z_sipush (12345 : Int32) dX9_neutral_31 (by decide) ?_
        exact z_iret dX9_neutral_34 rfl (by cases hf; rfl)
set_option maxRecDepth 4000 in
theorem zl_X9_digit_5 {Γ : zG} {N d : Nat} {h0 : zH} (hd : 10 ≤ d) {v1 : Int32} {k1 : Int32 → zH → Option (Int32 × zH)} {w : Int32 × zH}  (hk1 : ∀ (v3 : Int32) (h : zH), k1 v3 h = some w → Z Γ m_X9_digit d h0 (zoI w) 22 [(3, .int v3)] [] h) : ∀ (n : Nat) (v3 : Int32) (v4 : Int32) (h : zH), f_X9_digit_l5 N v1 k1 n v3 v4 h = some w → Z Γ m_X9_digit d h0 (zoI w) 5 [(1, .int v1), (3, .int v3), (4, .int v4)] [] h := by
  intro n
  induction n with
  | zero => intro v3 v4 h hf; cases hf
  | succ n ih =>
    intro v3 v4 h hf
    rw [f_X9_digit_l5] at hf
    refine z_iload 2 dX9_digit_5 rfl ?_
    refine z_iload_n 0 dX9_digit_7 rfl rfl ?_
    refine z_icmp_le 22 dX9_digit_8 (by decide) hf (fun hf => ?_) (fun hf => ?_)
    · exact Z.sub [1] rfl (hk1 v3 h hf)
    · refine z_iload_n 1 dX9_digit_11 rfl rfl ?_
      refine z_bipush (10 : Int32) dX9_digit_12 (by decide) ?_
      refine z_idiv dX9_digit_14 hf fun x1 hf => ?_
      refine z_istore_n [(3, .int x1), (1, .int v1), (4, .int v4)] dX9_digit_15 rfl (by decide) rfl ?_
      refine z_iinc (v4 + (-1 : Int32)) 2 [(4, .int (v4 + (-1 : Int32))), (3, .int x1), (1, .int v1)] dX9_digit_16 rfl rfl (by decide) rfl ?_
      refine z_goto 5 dX9_digit_19 (by decide) ?_
      exact Z.sub [2, 1, 0] rfl (ih x1 (v4 + (-1 : Int32)) h hf)
set_option maxRecDepth 4000 in
theorem zc_X9_digit {Γ : zG} {N d : Nat} (hd : 10 ≤ d) {p1 : Int32} {p2 : Int32} {p3 : Int32} {h : zH} {w : Int32 × zH} (hf : f_X9_digit N p1 p2 p3 h = some w) : Zm Γ m_X9_digit d [.int p1, .int p2, .int p3] h (zoI w) := by
  unfold f_X9_digit at hf
  refine z_meth rfl (plainFor_of_name wpl_X9) (by simp [lg_sl, Value.category, zml, m_X9_digit]) ?_
  refine z_iload_n 0 dX9_digit_0 rfl rfl ?_
  refine z_istore_n [(3, .int p1), (0, .int p1), (1, .int p2), (2, .int p3)] dX9_digit_1 rfl (by decide) rfl ?_
  refine z_iload_n 3 dX9_digit_2 rfl rfl ?_
  refine z_istore [(4, .int p3), (3, .int p1), (0, .int p1), (1, .int p2), (2, .int p3)] dX9_digit_3 (by decide) rfl ?_
  refine Z.sub [3, 1, 0] rfl (zl_X9_digit_5 hd (fun u2 h3 hf => ?_) N p1 p3 h hf)
  · refine z_iload_n 0 dX9_digit_22 rfl rfl ?_
    refine z_bipush (10 : Int32) dX9_digit_23 (by decide) ?_
    refine z_irem dX9_digit_25 hf fun x4 hf => ?_
    exact z_iret dX9_digit_26 rfl (by cases hf; rfl)
set_option maxRecDepth 4000 in
theorem zl_X9_times_5 {Γ : zG} {N d : Nat} {h0 : zH} (hd : 11 ≤ d) {v0 : Int32} {v1 : Int32} {v2 : Int32}  {w : Int32 × zH}   : ∀ (n : Nat) (v3 : Int32) (v4 : Int32) (h : zH), f_X9_times_l5 N v0 v1 v2 n v3 v4 h = some w → Z Γ m_X9_times d h0 (zoI w) 5 [(0, .int v0), (1, .int v1), (2, .int v2), (3, .int v3), (4, .int v4)] [] h := by
  intro n
  induction n with
  | zero => intro v3 v4 h hf; cases hf
  | succ n ih =>
    intro v3 v4 h hf
    rw [f_X9_times_l5] at hf
    refine z_iload 4 dX9_times_5 rfl ?_
    refine z_iload_n 2 dX9_times_7 rfl rfl ?_
    refine z_icmp_gt 35 dX9_times_8 (by decide) hf (fun hf => ?_) (fun hf => ?_)
    · refine z_iload_n 3 dX9_times_35 rfl rfl ?_
      exact z_iret dX9_times_36 rfl (by cases hf; rfl)
    · refine z_bipush (10 : Int32) dX9_times_11 (by decide) ?_
      refine z_iload_n 3 dX9_times_13 rfl rfl ?_
      refine z_imul dX9_times_14 ?_
      refine z_iload_n 1 dX9_times_15 rfl rfl ?_
      refine z_iload_n 0 dX9_times_16 rfl rfl ?_
      refine z_iload 4 dX9_times_17 rfl ?_
      refine z_iload_n 2 dX9_times_19 rfl rfl ?_
      refine z_cS_i (d' := d - 1) (As := [.int v0, .int v4, .int v2]) (rest := [.int v1, .int ((10 : Int32) * v3)]) dX9_times_20 lk_X9_50 hf (fun w1 e1 => zc_X9_digit (by omega) e1) (by omega) rfl rfl (Nat.le_of_ble_eq_true rfl) fun y1 hf => ?_
      refine z_iload_n 2 dX9_times_23 rfl rfl ?_
      refine z_cS_i (d' := d - 1) (As := [.int v1, .int y1.1, .int v2]) (rest := [.int ((10 : Int32) * v3)]) dX9_times_24 lk_X9_50 hf (fun w1 e1 => zc_X9_digit (by omega) e1) (by omega) rfl rfl (Nat.le_of_ble_eq_true rfl) fun y2 hf => ?_
      refine z_iadd dX9_times_27 ?_
      refine z_istore_n [(3, .int (((10 : Int32) * v3) + y2.1)), (0, .int v0), (1, .int v1), (2, .int v2), (4, .int v4)] dX9_times_28 rfl (by decide) rfl ?_
      refine z_iinc (v4 + (1 : Int32)) 4 [(4, .int (v4 + (1 : Int32))), (3, .int (((10 : Int32) * v3) + y2.1)), (0, .int v0), (1, .int v1), (2, .int v2)] dX9_times_29 rfl rfl (by decide) rfl ?_
      refine z_goto 5 dX9_times_32 (by decide) ?_
      exact Z.sub [2, 3, 4, 1, 0] rfl (ih (((10 : Int32) * v3) + y2.1) (v4 + (1 : Int32)) y2.2 hf)
set_option maxRecDepth 4000 in
theorem zc_X9_times {Γ : zG} {N d : Nat} (hd : 11 ≤ d) {p1 : Int32} {p2 : Int32} {p3 : Int32} {h : zH} {w : Int32 × zH} (hf : f_X9_times N p1 p2 p3 h = some w) : Zm Γ m_X9_times d [.int p1, .int p2, .int p3] h (zoI w) := by
  unfold f_X9_times at hf
  refine z_meth rfl (plainFor_of_name wpl_X9) (by simp [lg_sl, Value.category, zml, m_X9_times]) ?_
  refine z_iconst (0 : Int32) dX9_times_0 (by decide) ?_
  refine z_istore_n [(3, .int (0 : Int32)), (0, .int p1), (1, .int p2), (2, .int p3)] dX9_times_1 rfl (by decide) rfl ?_
  refine z_iconst (1 : Int32) dX9_times_2 (by decide) ?_
  refine z_istore [(4, .int (1 : Int32)), (3, .int (0 : Int32)), (0, .int p1), (1, .int p2), (2, .int p3)] dX9_times_3 (by decide) rfl ?_
  refine Z.sub [2, 3, 4, 1, 0] rfl (zl_X9_times_5 hd  N (0 : Int32) (1 : Int32) h hf)
set_option maxRecDepth 4000 in
theorem zl_X9_orderOf_4 {Γ : zG} {N d : Nat} {h0 : zH} (hd : 12 ≤ d) {v0 : Int32} {v1 : Int32}  {w : Int32 × zH}   : ∀ (n : Nat) (v2 : Int32) (v3 : Int32) (h : zH), f_X9_orderOf_l4 N v0 v1 n v2 v3 h = some w → Z Γ m_X9_orderOf d h0 (zoI w) 4 [(0, .int v0), (1, .int v1), (2, .int v2), (3, .int v3)] [] h := by
  intro n
  induction n with
  | zero => intro v2 v3 h hf; cases hf
  | succ n ih =>
    intro v2 v3 h hf
    rw [f_X9_orderOf_l4] at hf
    refine z_iload_n 3 dX9_orderOf_4 rfl rfl ?_
    refine z_iload_n 1 dX9_orderOf_5 rfl rfl ?_
    refine z_cS_i (d' := d - 1) (As := [.int v1]) (rest := [.int v3]) dX9_orderOf_6 lk_X9_54 hf (fun w1 e1 => zc_X9_neutral (by omega) e1) (by omega) rfl rfl (Nat.le_of_ble_eq_true rfl) fun y1 hf => ?_
    refine z_icmp_eq 25 dX9_orderOf_9 (by decide) hf (fun hf => ?_) (fun hf => ?_)
    · refine z_iload_n 2 dX9_orderOf_25 rfl rfl ?_
      exact z_iret dX9_orderOf_26 rfl (by cases hf; rfl)
    · refine z_iinc (v2 + (1 : Int32)) 2 [(2, .int (v2 + (1 : Int32))), (0, .int v0), (1, .int v1), (3, .int v3)] dX9_orderOf_12 rfl rfl (by decide) rfl ?_
      refine z_iload_n 3 dX9_orderOf_15 rfl rfl ?_
      refine z_iload_n 1 dX9_orderOf_16 rfl rfl ?_
      refine z_iload_n 2 dX9_orderOf_17 rfl rfl ?_
      refine z_cS_i (d' := d - 1) (As := [.int v3, .int v0, .int v1]) (rest := []) dX9_orderOf_18 lk_X9_58 hf (fun w1 e1 => zc_X9_times (by omega) e1) (by omega) rfl rfl (Nat.le_of_ble_eq_true rfl) fun y2 hf => ?_
      refine z_istore_n [(3, .int y2.1), (2, .int (v2 + (1 : Int32))), (0, .int v0), (1, .int v1)] dX9_orderOf_21 rfl (by decide) rfl ?_
      refine z_goto 4 dX9_orderOf_22 (by decide) ?_
      exact Z.sub [2, 3, 1, 0] rfl (ih (v2 + (1 : Int32)) y2.1 y2.2 hf)
set_option maxRecDepth 4000 in
theorem zc_X9_orderOf {Γ : zG} {N d : Nat} (hd : 12 ≤ d) {p1 : Int32} {p2 : Int32} {h : zH} {w : Int32 × zH} (hf : f_X9_orderOf N p1 p2 h = some w) : Zm Γ m_X9_orderOf d [.int p1, .int p2] h (zoI w) := by
  unfold f_X9_orderOf at hf
  refine z_meth rfl (plainFor_of_name wpl_X9) (by simp [lg_sl, Value.category, zml, m_X9_orderOf]) ?_
  refine z_iconst (1 : Int32) dX9_orderOf_0 (by decide) ?_
  refine z_istore_n [(2, .int (1 : Int32)), (0, .int p1), (1, .int p2)] dX9_orderOf_1 rfl (by decide) rfl ?_
  refine z_iload_n 1 dX9_orderOf_2 rfl rfl ?_
  refine z_istore_n [(3, .int p1), (2, .int (1 : Int32)), (0, .int p1), (1, .int p2)] dX9_orderOf_3 rfl (by decide) rfl ?_
  refine Z.sub [2, 3, 1, 0] rfl (zl_X9_orderOf_4 hd  N (1 : Int32) p1 h hf)
set_option maxRecDepth 4000 in
theorem zc_X9_limited {Γ : zG} {N d : Nat} (hd : 10 ≤ d) {p1 : Int64} {h : zH} {w : Int64 × zH} (hf : f_X9_limited N p1 h = some w) : Zm Γ m_X9_limited d [.long p1] h (zoJ w) := by
  unfold f_X9_limited at hf
  refine z_meth rfl (plainFor_of_name wpl_X9) (by simp [lg_sl, Value.category, zml, m_X9_limited]) ?_
  refine z_lload_n 0 dX9_limited_0 rfl rfl ?_
  refine z_ldc2 (1000000 : Int64) dX9_limited_1 wk_X9_210 ?_
  refine z_lcmp dX9_limited_4 ?_
  refine z_if_le 14 dX9_limited_5 (by decide) hf (fun hf => ?_) (fun hf => ?_)
  · refine z_lload_n 0 dX9_limited_14 rfl rfl ?_
    refine z_ldc2 (-1000000 : Int64) dX9_limited_15 wk_X9_212 ?_
    refine z_lcmp dX9_limited_18 ?_
    refine z_if_ge 28 dX9_limited_19 (by decide) hf (fun hf => ?_) (fun hf => ?_)
    · refine z_lload_n 0 dX9_limited_28 rfl rfl ?_
      exact z_lret dX9_limited_29 rfl (by cases hf; rfl)
    · refine z_ldc2 (-1000000 : Int64) dX9_limited_22 wk_X9_212 ?_
      refine z_goto 29 dX9_limited_25 (by decide) ?_
      exact z_lret dX9_limited_29 rfl (by cases hf; rfl)
  · refine z_ldc2 (1000000 : Int64) dX9_limited_8 wk_X9_210 ?_
    refine z_goto 29 dX9_limited_11 (by decide) ?_
    exact z_lret dX9_limited_29 rfl (by cases hf; rfl)
set_option maxRecDepth 4000 in
theorem zj_X9_operate_44 {Γ : zG} {N d : Nat} {h0 : zH} (hd : 11 ≤ d)  {s0 : Int64} {h : zH} {w : Int64 × zH} (hf : f_X9_operate_j44 N  s0 h = some w) : Z Γ m_X9_operate d h0 (zoJ w) 44 [] [.long s0] h := by
  unfold f_X9_operate_j44 at hf
  refine z_cS_j (d' := d - 1) (As := [.long s0]) (rest := []) dX9_operate_44 lk_X9_214 hf (fun w1 e1 => zc_X9_limited (by omega) e1) (by omega) rfl rfl (Nat.le_of_ble_eq_true rfl) fun y1 hf => ?_
  exact z_lret dX9_operate_47 rfl (by cases hf; rfl)
set_option maxRecDepth 4000 in
theorem zc_X9_operate {Γ : zG} {N d : Nat} (hd : 11 ≤ d) {p1 : Int32} {p2 : Int64} {p3 : Int64} {h : zH} {w : Int64 × zH} (hf : f_X9_operate N p1 p2 p3 h = some w) : Zm Γ m_X9_operate d [.int p1, .long p2, .long p3] h (zoJ w) := by
  unfold f_X9_operate at hf
  refine z_meth rfl (plainFor_of_name wpl_X9) (by simp [lg_sl, Value.category, zml, m_X9_operate]) ?_
  refine z_iload_n 0 dX9_operate_0 rfl rfl ?_
  refine z_iconst (5 : Int32) dX9_operate_1 (by decide) ?_
  refine z_icmp_ne 19 dX9_operate_2 (by decide) hf (fun hf => ?_) (fun hf => ?_)
  · refine z_lload_n 2 dX9_operate_5 rfl rfl ?_
    refine z_lconst (0 : Int64) dX9_operate_6 (by decide) ?_
    refine z_lcmp dX9_operate_7 ?_
    refine z_if_ne 15 dX9_operate_8 (by decide) hf (fun hf => ?_) (fun hf => ?_)
    · refine z_lconst (0 : Int64) dX9_operate_11 (by decide) ?_
      refine z_goto 18 dX9_operate_12 (by decide) ?_
      exact z_lret dX9_operate_18 rfl (by cases hf; rfl)
    · refine z_lload_n 1 dX9_operate_15 rfl rfl ?_
      refine z_lload_n 2 dX9_operate_16 rfl rfl ?_
      refine z_ldiv dX9_operate_17 hf fun x2 hf => ?_
      exact z_lret dX9_operate_18 rfl (by cases hf; rfl)
  · refine z_iload_n 0 dX9_operate_19 rfl rfl ?_
    refine z_iconst (2 : Int32) dX9_operate_20 (by decide) ?_
    refine z_icmp_ne 30 dX9_operate_21 (by decide) hf (fun hf => ?_) (fun hf => ?_)
    · refine z_lload_n 1 dX9_operate_24 rfl rfl ?_
      refine z_lload_n 2 dX9_operate_25 rfl rfl ?_
      refine z_ladd dX9_operate_26 ?_
      refine z_goto 44 dX9_operate_27 (by decide) ?_
      exact Z.sub [] rfl (zj_X9_operate_44 hd hf)
    · refine z_iload_n 0 dX9_operate_30 rfl rfl ?_
      refine z_iconst (3 : Int32) dX9_operate_31 (by decide) ?_
      refine z_icmp_ne 41 dX9_operate_32 (by decide) hf (fun hf => ?_) (fun hf => ?_)
      · refine z_lload_n 1 dX9_operate_35 rfl rfl ?_
        refine z_lload_n 2 dX9_operate_36 rfl rfl ?_
        refine z_lsub dX9_operate_37 ?_
        refine z_goto 44 dX9_operate_38 (by decide) ?_
        exact Z.sub [] rfl (zj_X9_operate_44 hd hf)
      · refine z_lload_n 1 dX9_operate_41 rfl rfl ?_
        refine z_lload_n 2 dX9_operate_42 rfl rfl ?_
        refine z_lmul dX9_operate_43 ?_
        exact Z.sub [] rfl (zj_X9_operate_44 hd hf)

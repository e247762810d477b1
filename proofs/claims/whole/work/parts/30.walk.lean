set_option maxRecDepth 4000 in
theorem zc_X8_bidderInTurn {Γ : zG} {N d : Nat} (hd : 12 ≤ d) {a : Nat} {h : zH} {w : (Nat ⊕ Nat) × zH} (hf : f_X8_bidderInTurn N a h = some w) : Zm Γ m_X8_bidderInTurn d [.ref a] h (zoTA w) := by
  unfold f_X8_bidderInTurn at hf
  refine z_meth rfl (plainFor_of_name wpl_X8) (by simp [lg_sl, Value.category, zml, m_X8_bidderInTurn]) ?_
  refine z_aload_n 0 dX8_bidderInTurn_0 rfl rfl ?_
  refine z_getA dX8_bidderInTurn_1 zc8 (by decide) wf_X8_28 hf fun x1 hf => ?_
  refine z_cV_i (d' := d - 1) (As := []) (rest := []) dX8_bidderInTurn_4 lk_X8_98 rfl hf (fun w1 e1 => zc_X0_isOver (by omega) e1) (by omega) rfl rfl (Nat.le_of_ble_eq_true rfl) fun y2 hf => ?_
  refine z_if_eq 14 dX8_bidderInTurn_7 (by decide) hf (fun hf => ?_) (fun hf => ?_)
  · refine z_aload_n 0 dX8_bidderInTurn_14 rfl rfl ?_
    refine z_getA dX8_bidderInTurn_15 zc8 (by decide) wf_X8_28 hf fun x3 hf => ?_
    refine z_aload_n 0 dX8_bidderInTurn_18 rfl rfl ?_
    refine z_getA dX8_bidderInTurn_19 zc8 (by decide) wf_X8_28 hf fun x4 hf => ?_
    refine z_getI dX8_bidderInTurn_22 zc0 (by decide) wf_X8_104 hf fun x5 hf => ?_
    refine z_cV_n (d' := d - 1) (As := [.int x5]) (rest := []) dX8_bidderInTurn_25 lk_X8_254 rfl hf (fun w1 e1 => zc_X0_bidder (by omega) e1) (by omega) rfl rfl (Nat.le_of_ble_eq_true rfl) (fun y6 hf => ?_) (fun y6 x7 hf => ?_)
    · refine z_astore_nN [(1, .null), (0, .ref a)] dX8_bidderInTurn_28 rfl (by decide) rfl ?_
      refine z_aload_nN 0 dX8_bidderInTurn_29 rfl rfl ?_
      refine z_ifnonnullN dX8_bidderInTurn_30 ?_
      exact z_throw 0 (by decide) dX8_bidderInTurn_33 dX8_bidderInTurn_36 dX8_bidderInTurn_37 dX8_bidderInTurn_40 wc_X8_212 wi_x0 wx_X8_214a wx_X8_214b (by omega) rfl (Nat.le_of_ble_eq_true rfl) (by cases hf; rfl)
    · refine z_astore_n [(1, .ref x7), (0, .ref a)] dX8_bidderInTurn_28 rfl (by decide) rfl ?_
      refine z_aload_n 0 dX8_bidderInTurn_29 rfl rfl ?_
      refine z_ifnonnull 41 dX8_bidderInTurn_30 (by decide) ?_
      refine z_aload_n 0 dX8_bidderInTurn_41 rfl rfl ?_
      exact z_aret dX8_bidderInTurn_42 rfl (Or.inl ⟨_, rfl⟩) (Or.inr ⟨_, rfl⟩) (by cases hf; rfl)
  · refine z_null dX8_bidderInTurn_10 ?_
    refine z_goto 28 dX8_bidderInTurn_11 (by decide) ?_
    refine z_astore_nN [(1, .null), (0, .ref a)] dX8_bidderInTurn_28 rfl (by decide) rfl ?_
    refine z_aload_nN 0 dX8_bidderInTurn_29 rfl rfl ?_
    refine z_ifnonnullN dX8_bidderInTurn_30 ?_
    exact z_throw 0 (by decide) dX8_bidderInTurn_33 dX8_bidderInTurn_36 dX8_bidderInTurn_37 dX8_bidderInTurn_40 wc_X8_212 wi_x0 wx_X8_214a wx_X8_214b (by omega) rfl (Nat.le_of_ble_eq_true rfl) (by cases hf; rfl)
set_option maxRecDepth 4000 in
theorem zl_X6_remove_13 {Γ : zG} {N d : Nat} {h0 : zH} (hd : 11 ≤ d) {v0 : Nat} {k1 : zH → Option (zH)} {w : zH}  (hk1 : ∀ (h : zH), k1 h = some w → Z Γ m_X6_remove d h0 (zoV w) 50 [(0, .ref v0)] [] h) : ∀ (n : Nat) (v2 : Int32) (h : zH), f_X6_remove_l13 N v0 k1 n v2 h = some w → Z Γ m_X6_remove d h0 (zoV w) 13 [(0, .ref v0), (2, .int v2)] [] h := by
  intro n
  induction n with
  | zero => intro v2 h hf; cases hf
  | succ n ih =>
    intro v2 h hf
    rw [f_X6_remove_l13] at hf
    refine z_iload_n 1 dX6_remove_13 rfl rfl ?_
    refine z_aload_n 0 dX6_remove_14 rfl rfl ?_
    refine z_getI dX6_remove_15 zc6 (by decide) wf_X6_19 hf fun x2 hf => ?_
    refine z_icmp_ge 50 dX6_remove_18 (by decide) hf (fun hf => ?_) (fun hf => ?_)
    · exact Z.sub [0] rfl (hk1 h hf)
    · refine z_iload_n 1 dX6_remove_21 rfl rfl ?_
      refine z_aload_n 0 dX6_remove_22 rfl rfl ?_
      refine z_getA dX6_remove_23 zc6 (by decide) wf_X6_13 hf fun x3 hf => ?_
      refine z_alen dX6_remove_26 hf fun x4 hf => ?_
      refine z_icmp_ge 50 dX6_remove_27 (by decide) hf (fun hf => ?_) (fun hf => ?_)
      · exact Z.sub [0] rfl (hk1 h hf)
      · refine z_aload_n 0 dX6_remove_30 rfl rfl ?_
        refine z_getA dX6_remove_31 zc6 (by decide) wf_X6_13 hf fun x5 hf => ?_
        refine z_iload_n 1 dX6_remove_34 rfl rfl ?_
        refine z_iconst (1 : Int32) dX6_remove_35 (by decide) ?_
        refine z_isub dX6_remove_36 ?_
        refine z_aload_n 0 dX6_remove_37 rfl rfl ?_
        refine z_getA dX6_remove_38 zc6 (by decide) wf_X6_13 hf fun x6 hf => ?_
        refine z_iload_n 1 dX6_remove_41 rfl rfl ?_
        refine z_iaload dX6_remove_42 hf fun x7 hf => ?_
        refine z_iastore dX6_remove_43 hf fun h8 hf => ?_
        refine z_iinc (v2 + (1 : Int32)) 1 [(2, .int (v2 + (1 : Int32))), (0, .ref v0)] dX6_remove_44 rfl rfl (by decide) rfl ?_
        refine z_goto 13 dX6_remove_47 (by decide) ?_
        exact Z.sub [1, 0] rfl (ih (v2 + (1 : Int32)) h8 hf)
set_option maxRecDepth 4000 in
theorem zc_X6_remove {Γ : zG} {N d : Nat} (hd : 11 ≤ d) {a : Nat} {p1 : Int32} {h : zH} {w : zH} (hf : f_X6_remove N a p1 h = some w) : Zm Γ m_X6_remove d [.ref a, .int p1] h (zoV w) := by
  unfold f_X6_remove at hf
  refine z_meth rfl (plainFor_of_name wpl_X6) (by simp [lg_sl, Value.category, zml, m_X6_remove]) ?_
  refine z_aload_n 0 dX6_remove_0 rfl rfl ?_
  refine z_iload_n 1 dX6_remove_1 rfl rfl ?_
  refine z_cV_i (d' := d - 1) (As := [.int p1]) (rest := []) dX6_remove_2 lk_X6_23 rfl hf (fun w1 e1 => zc_X6_holds (by omega) e1) (by omega) rfl rfl (Nat.le_of_ble_eq_true rfl) fun y1 hf => ?_
  refine z_if_ne 9 dX6_remove_5 (by decide) hf (fun hf => ?_) (fun hf => ?_)
  · exact z_vret dX6_remove_8 rfl (by cases hf; rfl)
  · refine z_iload_n 1 dX6_remove_9 rfl rfl ?_
    refine z_iconst (1 : Int32) dX6_remove_10 (by decide) ?_
    refine z_iadd dX6_remove_11 ?_
    refine z_istore_n [(2, .int (p1 + (1 : Int32))), (0, .ref a), (1, .int p1)] dX6_remove_12 rfl (by decide) rfl ?_
    refine Z.sub [1, 0] rfl (zl_X6_remove_13 hd (fun h9 hf => ?_) N (p1 + (1 : Int32)) y1.2 hf)
    · refine z_aload_n 0 dX6_remove_50 rfl rfl ?_
      refine z_dup dX6_remove_51 rfl ?_
      refine z_getI dX6_remove_52 zc6 (by decide) wf_X6_19 hf fun x10 hf => ?_
      refine z_iconst (1 : Int32) dX6_remove_55 (by decide) ?_
      refine z_isub dX6_remove_56 ?_
      refine z_putB dX6_remove_57 zc6 (by decide) wf_X6_19 (Or.inl rfl) rfl rfl hf fun h11 hf => ?_
      exact z_vret dX6_remove_60 rfl (by cases hf; rfl)
set_option maxRecDepth 4000 in
theorem zc_X1_dropCard {Γ : zG} {N d : Nat} (hd : 12 ≤ d) {a : Nat} {p1 : Int32} {h : zH} {w : zH} (hf : f_X1_dropCard N a p1 h = some w) : Zm Γ m_X1_dropCard d [.ref a, .int p1] h (zoV w) := by
  unfold f_X1_dropCard at hf
  refine z_meth rfl (plainFor_of_name wpl_X1) (by simp [lg_sl, Value.category, zml, m_X1_dropCard]) ?_
  refine z_aload_n 0 dX1_dropCard_0 rfl rfl ?_
  refine z_getA dX1_dropCard_1 zc1 (by decide) wf_X1_14 hf fun x1 hf => ?_
  refine z_iload_n 1 dX1_dropCard_4 rfl rfl ?_
  refine z_cV_v (d' := d - 1) (As := [.int p1]) (rest := []) dX1_dropCard_5 lk_X1_40 rfl hf (fun w1 e1 => zc_X6_remove (by omega) e1) (by omega) rfl rfl (Nat.le_of_ble_eq_true rfl) fun y2 hf => ?_
  refine z_aload_n 0 dX1_dropCard_8 rfl rfl ?_
  refine z_getA dX1_dropCard_9 zc1 (by decide) wf_X1_20 hf fun x3 hf => ?_
  refine z_iload_n 1 dX1_dropCard_12 rfl rfl ?_
  refine z_cV_v (d' := d - 1) (As := [.int p1]) (rest := []) dX1_dropCard_13 lk_X1_40 rfl hf (fun w1 e1 => zc_X6_remove (by omega) e1) (by omega) rfl rfl (Nat.le_of_ble_eq_true rfl) fun y4 hf => ?_
  exact z_vret dX1_dropCard_16 rfl (by cases hf; rfl)
set_option maxRecDepth 4000 in
theorem zc_X1_receive {Γ : zG} {N d : Nat} (hd : 11 ≤ d) {a : Nat} {p1 : Int32} {h : zH} {w : zH} (hf : f_X1_receive N a p1 h = some w) : Zm Γ m_X1_receive d [.ref a, .int p1] h (zoV w) := by
  unfold f_X1_receive at hf
  refine z_meth rfl (plainFor_of_name wpl_X1) (by simp [lg_sl, Value.category, zml, m_X1_receive]) ?_
  refine z_aload_n 0 dX1_receive_0 rfl rfl ?_
  refine z_iconst (0 : Int32) dX1_receive_1 (by decide) ?_
  refine z_ldc (999999 : Int32) dX1_receive_2 wk_X1_43 ?_
  refine z_aload_n 0 dX1_receive_4 rfl rfl ?_
  refine z_getI dX1_receive_5 zc1 (by decide) wf_X1_23 hf fun x1 hf => ?_
  refine z_iload_n 1 dX1_receive_8 rfl rfl ?_
  refine z_iadd dX1_receive_9 ?_
  refine z_cS_i (d' := d - 1) (As := [.int (999999 : Int32), .int (x1 + p1)]) (rest := [.int (0 : Int32), .ref a]) dX1_receive_10 lk_X1_44 hf (fun w1 e1 => zc_J9_min_7cf53 (by omega) e1) (by omega) rfl rfl (Nat.le_of_ble_eq_true rfl) fun y2 hf => ?_
  refine z_cS_i (d' := d - 1) (As := [.int (0 : Int32), .int y2.1]) (rest := [.ref a]) dX1_receive_13 lk_X1_50 hf (fun w1 e1 => zc_J9_max_7cf53 (by omega) e1) (by omega) rfl rfl (Nat.le_of_ble_eq_true rfl) fun y3 hf => ?_
  refine z_putB dX1_receive_16 zc1 (by decide) wf_X1_23 (Or.inl rfl) rfl rfl hf fun h4 hf => ?_
  exact z_vret dX1_receive_19 rfl (by cases hf; rfl)
set_option maxRecDepth 4000 in
theorem zc_X0_openNextLot {Γ : zG} {N d : Nat} (hd : 12 ≤ d) {a : Nat} {h : zH} {w : zH} (hf : f_X0_openNextLot N a h = some w) : Zm Γ m_X0_openNextLot d [.ref a] h (zoV w) := by
  unfold f_X0_openNextLot at hf
  refine z_meth rfl (plainFor_of_name wpl_X0) (by simp [lg_sl, Value.category, zml, m_X0_openNextLot]) ?_
  refine z_aload_n 0 dX0_openNextLot_0 rfl rfl ?_
  refine z_dup dX0_openNextLot_1 rfl ?_
  refine z_getI dX0_openNextLot_2 zc0 (by decide) wf_X0_62 hf fun x1 hf => ?_
  refine z_iconst (1 : Int32) dX0_openNextLot_5 (by decide) ?_
  refine z_iadd dX0_openNextLot_6 ?_
  refine z_putB dX0_openNextLot_7 zc0 (by decide) wf_X0_62 (Or.inl rfl) rfl rfl hf fun h2 hf => ?_
  refine z_aload_n 0 dX0_openNextLot_10 rfl rfl ?_
  refine z_cV_v (d' := d - 1) (As := []) (rest := []) dX0_openNextLot_11 lk_X0_71 rfl hf (fun w1 e1 => zc_X0_clearLot (by omega) e1) (by omega) rfl rfl (Nat.le_of_ble_eq_true rfl) fun y3 hf => ?_
  exact z_vret dX0_openNextLot_14 rfl (by cases hf; rfl)
set_option maxRecDepth 4000 in
theorem zc_X0_turnToNext {Γ : zG} {N d : Nat} (hd : 10 ≤ d) {a : Nat} {h : zH} {w : zH} (hf : f_X0_turnToNext N a h = some w) : Zm Γ m_X0_turnToNext d [.ref a] h (zoV w) := by
  unfold f_X0_turnToNext at hf
  refine z_meth rfl (plainFor_of_name wpl_X0) (by simp [lg_sl, Value.category, zml, m_X0_turnToNext]) ?_
  refine z_aload_n 0 dX0_turnToNext_0 rfl rfl ?_
  refine z_aload_n 0 dX0_turnToNext_1 rfl rfl ?_
  refine z_getI dX0_turnToNext_2 zc0 (by decide) wf_X0_65 hf fun x1 hf => ?_
  refine z_iconst (1 : Int32) dX0_turnToNext_5 (by decide) ?_
  refine z_iadd dX0_turnToNext_6 ?_
  refine z_aload_n 0 dX0_turnToNext_7 rfl rfl ?_
  refine z_getI dX0_turnToNext_8 zc0 (by decide) wf_X0_56 hf fun x2 hf => ?_
  refine z_icmp_ge 23 dX0_turnToNext_11 (by decide) hf (fun hf => ?_) (fun hf => ?_)
  · refine z_iconst (0 : Int32) dX0_turnToNext_23 (by decide) ?_
    refine z_putB dX0_turnToNext_24 zc0 (by decide) wf_X0_65 (Or.inl rfl) rfl rfl hf fun h3 hf => ?_
    exact z_vret dX0_turnToNext_27 rfl (by cases hf; rfl)
  · refine z_aload_n 0 dX0_turnToNext_14 rfl rfl ?_
    refine z_getI dX0_turnToNext_15 zc0 (by decide) wf_X0_65 hf fun x4 hf => ?_
    refine z_iconst (1 : Int32) dX0_turnToNext_18 (by decide) ?_
    refine z_iadd dX0_turnToNext_19 ?_
    refine z_goto 24 dX0_turnToNext_20 (by decide) ?_
    refine z_putB dX0_turnToNext_24 zc0 (by decide) wf_X0_65 (Or.inl rfl) rfl rfl hf fun h5 hf => ?_
    exact z_vret dX0_turnToNext_27 rfl (by cases hf; rfl)
set_option maxRecDepth 4000 in
theorem zj_X0_endMove_70 {Γ : zG} {N d : Nat} {h0 : zH} (hd : 13 ≤ d) {v0 : Nat} {v3 : Int32}  {h : zH} {w : Int32 × zH} (hf : f_X0_endMove_j70 N v0 v3  h = some w) : Z Γ m_X0_endMove d h0 (zoI w) 70 [(0, .ref v0), (3, .int v3)] [] h := by
  unfold f_X0_endMove_j70 at hf
  refine z_aload_n 0 dX0_endMove_70 rfl rfl ?_
  refine z_cV_v (d' := d - 1) (As := []) (rest := []) dX0_endMove_71 lk_X0_161 rfl hf (fun w1 e1 => zc_X0_turnToNext (by omega) e1) (by omega) rfl rfl (Nat.le_of_ble_eq_true rfl) fun y4 hf => ?_
  refine z_iload_n 1 dX0_endMove_74 rfl rfl ?_
  refine z_if_eq 82 dX0_endMove_75 (by decide) hf (fun hf => ?_) (fun hf => ?_)
  · refine z_iconst (0 : Int32) dX0_endMove_82 (by decide) ?_
    exact z_iret dX0_endMove_83 rfl (by cases hf; rfl)
  · refine z_iconst (1 : Int32) dX0_endMove_78 (by decide) ?_
    refine z_goto 83 dX0_endMove_79 (by decide) ?_
    exact z_iret dX0_endMove_83 rfl (by cases hf; rfl)
set_option maxRecDepth 4000 in
theorem zj_X0_endMove_31 {Γ : zG} {N d : Nat} {h0 : zH} (hd : 13 ≤ d) {v0 : Nat} {v1 : Nat} {s0 : Int32} {h : zH} {w : Int32 × zH} (hf : f_X0_endMove_j31 N v0 v1 s0 h = some w) : Z Γ m_X0_endMove d h0 (zoI w) 31 [(0, .ref v0), (1, .ref v1)] [.int s0] h := by
  unfold f_X0_endMove_j31 at hf
  refine z_istore_n [(3, .int s0), (0, .ref v0), (1, .ref v1)] dX0_endMove_31 rfl (by decide) rfl ?_
  refine z_iload_n 0 dX0_endMove_32 rfl rfl ?_
  refine z_if_eq 70 dX0_endMove_33 (by decide) hf (fun hf => ?_) (fun hf => ?_)
  · exact Z.sub [1, 0] rfl (zj_X0_endMove_70 hd hf)
  · refine z_aload_n 2 dX0_endMove_36 rfl rfl ?_
    refine z_aload_n 1 dX0_endMove_37 rfl rfl ?_
    refine z_getA dX0_endMove_38 zc0 (by decide) wf_X0_27 hf fun x5 hf => ?_
    refine z_aload_n 1 dX0_endMove_41 rfl rfl ?_
    refine z_getI dX0_endMove_42 zc0 (by decide) wf_X0_62 hf fun x6 hf => ?_
    refine z_cV_i (d' := d - 1) (As := [.int x6]) (rest := [.ref v1]) dX0_endMove_45 lk_X0_94 rfl hf (fun w1 e1 => zc_X6_at (by omega) e1) (by omega) rfl rfl (Nat.le_of_ble_eq_true rfl) fun y7 hf => ?_
    refine z_aload_n 1 dX0_endMove_48 rfl rfl ?_
    refine z_getI dX0_endMove_49 zc0 (by decide) wf_X0_81 hf fun x8 hf => ?_
    refine z_iadd dX0_endMove_52 ?_
    refine z_cV_v (d' := d - 1) (As := [.int (y7.1 + x8)]) (rest := []) dX0_endMove_53 lk_X0_152 rfl hf (fun w1 e1 => zc_X1_receive (by omega) e1) (by omega) rfl rfl (Nat.le_of_ble_eq_true rfl) fun y9 hf => ?_
    refine z_aload_n 2 dX0_endMove_56 rfl rfl ?_
    refine z_dup dX0_endMove_57 rfl ?_
    refine z_getI dX0_endMove_58 zc1 (by decide) wf_X0_164 hf fun x10 hf => ?_
    refine z_iconst (1 : Int32) dX0_endMove_61 (by decide) ?_
    refine z_iadd dX0_endMove_62 ?_
    refine z_putB dX0_endMove_63 zc1 (by decide) wf_X0_164 (Or.inl rfl) rfl rfl hf fun h11 hf => ?_
    refine z_aload_n 1 dX0_endMove_66 rfl rfl ?_
    refine z_cV_v (d' := d - 1) (As := []) (rest := []) dX0_endMove_67 lk_X0_158 rfl hf (fun w1 e1 => zc_X0_openNextLot (by omega) e1) (by omega) rfl rfl (Nat.le_of_ble_eq_true rfl) fun y12 hf => ?_
    exact Z.sub [1, 0] rfl (zj_X0_endMove_70 hd hf)
set_option maxRecDepth 4000 in
theorem zj_X0_endMove_30 {Γ : zG} {N d : Nat} {h0 : zH} (hd : 13 ≤ d) {v0 : Nat} {v1 : Nat}  {h : zH} {w : Int32 × zH} (hf : f_X0_endMove_j30 N v0 v1  h = some w) : Z Γ m_X0_endMove d h0 (zoI w) 30 [(0, .ref v0), (1, .ref v1)] [] h := by
  unfold f_X0_endMove_j30 at hf
  refine z_iconst (0 : Int32) dX0_endMove_30 (by decide) ?_
  exact Z.sub [0, 1] rfl (zj_X0_endMove_31 hd hf)
set_option maxRecDepth 4000 in
theorem zc_X0_endMove {Γ : zG} {N d : Nat} (hd : 13 ≤ d) {a : Nat} {p1 : Nat} {h : zH} {w : Int32 × zH} (hf : f_X0_endMove N a p1 h = some w) : Zm Γ m_X0_endMove d [.ref a, .ref p1] h (zoI w) := by
  unfold f_X0_endMove at hf
  refine z_meth rfl (plainFor_of_name wpl_X0) (by simp [lg_sl, Value.category, zml, m_X0_endMove]) ?_
  refine z_aload_n 0 dX0_endMove_0 rfl rfl ?_
  refine z_iconst (0 : Int32) dX0_endMove_1 (by decide) ?_
  refine z_putB dX0_endMove_2 zc0 (by decide) wf_X0_84 (Or.inl rfl) rfl rfl hf fun h1 hf => ?_
  refine z_aload_n 0 dX0_endMove_5 rfl rfl ?_
  refine z_getA dX0_endMove_6 zc0 (by decide) wf_X0_34 hf fun x2 hf => ?_
  refine z_cV_i (d' := d - 1) (As := []) (rest := []) dX0_endMove_9 lk_X0_104 rfl hf (fun w1 e1 => zc_X6_size (by omega) e1) (by omega) rfl rfl (Nat.le_of_ble_eq_true rfl) fun y3 hf => ?_
  refine z_istore_n [(2, .int y3.1), (0, .ref a), (1, .ref p1)] dX0_endMove_12 rfl (by decide) rfl ?_
  refine z_iload_n 0 dX0_endMove_13 rfl rfl ?_
  refine z_if_le 30 dX0_endMove_14 (by decide) hf (fun hf => ?_) (fun hf => ?_)
  · exact Z.sub [1, 2] rfl (zj_X0_endMove_30 hd hf)
  · refine z_aload_n 1 dX0_endMove_17 rfl rfl ?_
    refine z_iconst (0 : Int32) dX0_endMove_18 (by decide) ?_
    refine z_iload_n 0 dX0_endMove_19 rfl rfl ?_
    refine z_cV_i (d' := d - 1) (As := [.int (0 : Int32), .int y3.1]) (rest := []) dX0_endMove_20 lk_X0_108 rfl hf (fun w1 e1 => zc_X0_productOfBids (by omega) e1) (by omega) rfl rfl (Nat.le_of_ble_eq_true rfl) fun y13 hf => ?_
    refine z_if_ne 30 dX0_endMove_23 (by decide) hf (fun hf => ?_) (fun hf => ?_)
    · refine z_iconst (1 : Int32) dX0_endMove_26 (by decide) ?_
      refine z_goto 31 dX0_endMove_27 (by decide) ?_
      exact Z.sub [1, 2] rfl (zj_X0_endMove_31 hd hf)
    · exact Z.sub [1, 2] rfl (zj_X0_endMove_30 hd hf)
set_option maxRecDepth 4000 in
theorem zc_X0_playCard {Γ : zG} {N d : Nat} (hd : 14 ≤ d) {a : Nat} {p1 : Int32} {h : zH} {w : Int32 × zH} (hf : f_X0_playCard N a p1 h = some w) : Zm Γ m_X0_playCard d [.ref a, .int p1] h (zoI w) := by
  unfold f_X0_playCard at hf
  refine z_meth rfl (plainFor_of_name wpl_X0) (by simp [lg_sl, Value.category, zml, m_X0_playCard]) ?_
  refine z_aload_n 0 dX0_playCard_0 rfl rfl ?_
  refine z_aload_n 0 dX0_playCard_1 rfl rfl ?_
  refine z_getI dX0_playCard_2 zc0 (by decide) wf_X0_65 hf fun x1 hf => ?_
  refine z_cV_n (d' := d - 1) (As := [.int x1]) (rest := []) dX0_playCard_5 lk_X0_127 rfl hf (fun w1 e1 => zc_X0_bidder (by omega) e1) (by omega) rfl rfl (Nat.le_of_ble_eq_true rfl) (fun y2 hf => ?_) (fun y2 x3 hf => ?_)
  · refine z_astore_nN [(2, .null), (0, .ref a), (1, .int p1)] dX0_playCard_8 rfl (by decide) rfl ?_
    refine z_aload_nN 0 dX0_playCard_9 rfl rfl ?_
    refine z_ifnonnullN dX0_playCard_10 ?_
    refine z_iconst (-1 : Int32) dX0_playCard_13 (by decide) ?_
    exact z_iret dX0_playCard_14 rfl (by cases hf; rfl)
  · refine z_astore_n [(2, .ref x3), (0, .ref a), (1, .int p1)] dX0_playCard_8 rfl (by decide) rfl ?_
    refine z_aload_n 0 dX0_playCard_9 rfl rfl ?_
    refine z_ifnonnull 15 dX0_playCard_10 (by decide) ?_
    refine z_aload_n 1 dX0_playCard_15 rfl rfl ?_
    refine z_aload_n 0 dX0_playCard_16 rfl rfl ?_
    refine z_iload_n 2 dX0_playCard_17 rfl rfl ?_
    refine z_cV_i (d' := d - 1) (As := [.ref x3, .int p1]) (rest := []) dX0_playCard_18 lk_X0_131 rfl hf (fun w1 e1 => zc_X0_priceOf (by omega) e1) (by omega) rfl rfl (Nat.le_of_ble_eq_true rfl) fun y4 hf => ?_
    refine z_istore_n [(3, .int y4.1), (2, .ref x3), (0, .ref a), (1, .int p1)] dX0_playCard_21 rfl (by decide) rfl ?_
    refine z_aload_n 2 dX0_playCard_22 rfl rfl ?_
    refine z_getA dX0_playCard_23 zc0 (by decide) wf_X0_34 hf fun x5 hf => ?_
    refine z_cV_i (d' := d - 1) (As := []) (rest := []) dX0_playCard_26 lk_X0_135 rfl hf (fun w1 e1 => zc_X6_isFull (by omega) e1) (by omega) rfl rfl (Nat.le_of_ble_eq_true rfl) fun y6 hf => ?_
    refine z_if_ne 40 dX0_playCard_29 (by decide) hf (fun hf => ?_) (fun hf => ?_)
    · refine z_aload_n 1 dX0_playCard_32 rfl rfl ?_
      refine z_getI dX0_playCard_33 zc1 (by decide) wf_X0_139 hf fun x7 hf => ?_
      refine z_iload_n 0 dX0_playCard_36 rfl rfl ?_
      refine z_icmp_ge 42 dX0_playCard_37 (by decide) hf (fun hf => ?_) (fun hf => ?_)
      · refine z_aload_n 1 dX0_playCard_42 rfl rfl ?_
        refine z_dup dX0_playCard_43 rfl ?_
        refine z_getI dX0_playCard_44 zc1 (by decide) wf_X0_139 hf fun x8 hf => ?_
        refine z_iload_n 0 dX0_playCard_47 rfl rfl ?_
        refine z_isub dX0_playCard_48 ?_
        refine z_putB dX0_playCard_49 zc1 (by decide) wf_X0_139 (Or.inl rfl) rfl rfl hf fun h9 hf => ?_
        refine z_aload_n 2 dX0_playCard_52 rfl rfl ?_
        refine z_dup dX0_playCard_53 rfl ?_
        refine z_getI dX0_playCard_54 zc0 (by decide) wf_X0_81 hf fun x10 hf => ?_
        refine z_iload_n 0 dX0_playCard_57 rfl rfl ?_
        refine z_iadd dX0_playCard_58 ?_
        refine z_putB dX0_playCard_59 zc0 (by decide) wf_X0_81 (Or.inl rfl) rfl rfl hf fun h11 hf => ?_
        refine z_aload_n 2 dX0_playCard_62 rfl rfl ?_
        refine z_getA dX0_playCard_63 zc0 (by decide) wf_X0_31 hf fun x12 hf => ?_
        refine z_aload_n 2 dX0_playCard_66 rfl rfl ?_
        refine z_getI dX0_playCard_67 zc0 (by decide) wf_X0_65 hf fun x13 hf => ?_
        refine z_cV_v (d' := d - 1) (As := [.int x13]) (rest := []) dX0_playCard_70 lk_X0_142 rfl hf (fun w1 e1 => zc_X6_push (by omega) e1) (by omega) rfl rfl (Nat.le_of_ble_eq_true rfl) fun y14 hf => ?_
        refine z_aload_n 2 dX0_playCard_73 rfl rfl ?_
        refine z_getA dX0_playCard_74 zc0 (by decide) wf_X0_34 hf fun x15 hf => ?_
        refine z_aload_n 1 dX0_playCard_77 rfl rfl ?_
        refine z_getA dX0_playCard_78 zc1 (by decide) wf_X0_114 hf fun x16 hf => ?_
        refine z_iload_n 3 dX0_playCard_81 rfl rfl ?_
        refine z_cV_i (d' := d - 1) (As := [.int p1]) (rest := [.ref x15]) dX0_playCard_82 lk_X0_94 rfl hf (fun w1 e1 => zc_X6_at (by omega) e1) (by omega) rfl rfl (Nat.le_of_ble_eq_true rfl) fun y17 hf => ?_
        refine z_cV_v (d' := d - 1) (As := [.int y17.1]) (rest := []) dX0_playCard_85 lk_X0_142 rfl hf (fun w1 e1 => zc_X6_push (by omega) e1) (by omega) rfl rfl (Nat.le_of_ble_eq_true rfl) fun y18 hf => ?_
        refine z_aload_n 2 dX0_playCard_88 rfl rfl ?_
        refine z_getA dX0_playCard_89 zc0 (by decide) wf_X0_37 hf fun x19 hf => ?_
        refine z_iload_n 0 dX0_playCard_92 rfl rfl ?_
        refine z_cV_v (d' := d - 1) (As := [.int y4.1]) (rest := []) dX0_playCard_93 lk_X0_142 rfl hf (fun w1 e1 => zc_X6_push (by omega) e1) (by omega) rfl rfl (Nat.le_of_ble_eq_true rfl) fun y20 hf => ?_
        refine z_aload_n 1 dX0_playCard_96 rfl rfl ?_
        refine z_iload_n 3 dX0_playCard_97 rfl rfl ?_
        refine z_cV_v (d' := d - 1) (As := [.int p1]) (rest := []) dX0_playCard_98 lk_X0_145 rfl hf (fun w1 e1 => zc_X1_dropCard (by omega) e1) (by omega) rfl rfl (Nat.le_of_ble_eq_true rfl) fun y21 hf => ?_
        refine z_aload_n 2 dX0_playCard_101 rfl rfl ?_
        refine z_aload_n 1 dX0_playCard_102 rfl rfl ?_
        refine z_cV_i (d' := d - 1) (As := [.ref x3]) (rest := []) dX0_playCard_103 lk_X0_148 rfl hf (fun w1 e1 => zc_X0_endMove (by omega) e1) (by omega) rfl rfl (Nat.le_of_ble_eq_true rfl) fun y22 hf => ?_
        exact z_iret dX0_playCard_106 rfl (by cases hf; rfl)
      · refine z_iconst (-1 : Int32) dX0_playCard_40 (by decide) ?_
        exact z_iret dX0_playCard_41 rfl (by cases hf; rfl)
    · refine z_iconst (-1 : Int32) dX0_playCard_40 (by decide) ?_
      exact z_iret dX0_playCard_41 rfl (by cases hf; rfl)
set_option maxRecDepth 4000 in
theorem zc_X8_play {Γ : zG} {N d : Nat} (hd : 15 ≤ d) {a : Nat} {p1 : Int32} {h : zH} {w : (Int32 ⊕ Nat) × zH} (hf : f_X8_play N a p1 h = some w) : Zm Γ m_X8_play d [.ref a, .int p1] h (zoTI w) := by
  unfold f_X8_play at hf
  refine z_meth rfl (plainFor_of_name wpl_X8) (by simp [lg_sl, Value.category, zml, m_X8_play]) ?_
  refine z_aload_n 0 dX8_play_0 rfl rfl ?_
  refine z_cV_ta (d' := d - 1) (As := []) (rest := []) dX8_play_1 lk_X8_202 rfl hf (fun w1 e1 => zc_X8_bidderInTurn (by omega) e1) (by omega) rfl rfl (Nat.le_of_ble_eq_true rfl) (fun y1 x2 hf => ?_) (fun y1 k3 hf => ?_)
  · refine z_getA dX8_play_4 zc1 (by decide) wf_X8_128 hf fun x4 hf => ?_
    refine z_iload_n 1 dX8_play_7 rfl rfl ?_
    refine z_cV_i (d' := d - 1) (As := [.int p1]) (rest := []) dX8_play_8 lk_X8_134 rfl hf (fun w1 e1 => zc_X6_holds (by omega) e1) (by omega) rfl rfl (Nat.le_of_ble_eq_true rfl) fun y5 hf => ?_
    refine z_if_ne 22 dX8_play_11 (by decide) hf (fun hf => ?_) (fun hf => ?_)
    · exact z_throw 3 (by decide) dX8_play_14 dX8_play_17 dX8_play_18 dX8_play_21 wc_X8_138 wi_x3 wx_X8_140a wx_X8_140b (by omega) rfl (Nat.le_of_ble_eq_true rfl) (by cases hf; rfl)
    · refine z_aload_n 0 dX8_play_22 rfl rfl ?_
      refine z_getA dX8_play_23 zc8 (by decide) wf_X8_35 hf fun x6 hf => ?_
      refine z_aload_n 0 dX8_play_26 rfl rfl ?_
      refine z_getA dX8_play_27 zc8 (by decide) wf_X8_28 hf fun x7 hf => ?_
      refine z_cV_v (d' := d - 1) (As := [.ref x7]) (rest := []) dX8_play_30 lk_X8_72 rfl hf (fun w1 e1 => zc_X4_remember (by omega) e1) (by omega) rfl rfl (Nat.le_of_ble_eq_true rfl) fun y8 hf => ?_
      refine z_aload_n 0 dX8_play_33 rfl rfl ?_
      refine z_getA dX8_play_34 zc8 (by decide) wf_X8_28 hf fun x9 hf => ?_
      refine z_iload_n 1 dX8_play_37 rfl rfl ?_
      refine z_cV_i (d' := d - 1) (As := [.int p1]) (rest := []) dX8_play_38 lk_X8_206 rfl hf (fun w1 e1 => zc_X0_playCard (by omega) e1) (by omega) rfl rfl (Nat.le_of_ble_eq_true rfl) fun y10 hf => ?_
      exact z_iret dX8_play_41 rfl (by cases hf; rfl)
  · exact zx_out rfl (by cases hf; rfl)
set_option maxRecDepth 4000 in
theorem zc_L_play {Γ : zG} {N d : Nat} (hd : 16 ≤ d) {p1 : Nat} {p2 : Int32} {p3 : Nat} {h : zH} {w : Int32 × zH} (hf : f_L_play N p1 p2 p3 h = some w) : Zm Γ m_L_play d [.ref p1, .int p2, .ref p3] h (zoI w) := by
  unfold f_L_play at hf
  refine z_methH (by decide) (by decide +kernel) (by simp [lg_sl, Value.category, zml, m_L_play]) ?_
  refine z_aload_n 2 dL_play_0 rfl rfl ?_
  refine z_iconst (0 : Int32) dL_play_1 (by decide) ?_
  refine z_aload_n 0 dL_play_2 rfl rfl ?_
  refine z_iload_n 1 dL_play_3 rfl rfl ?_
  refine z_cV_ti (d' := d - 1) (As := [.int p2]) (rest := [.int (0 : Int32), .ref p3]) dL_play_4 lk_L_64 rfl hf (fun w1 e1 => zc_X8_play (by omega) e1) (by omega) rfl rfl (Nat.le_of_ble_eq_true rfl) (fun y1 x2 hf => ?_) (fun y1 k3 hf => ?_)
  · refine z_i2l dL_play_7 ?_
    refine z_lastore dL_play_8 hf fun h4 hf => ?_
    refine z_goto 18 dL_play_9 (by decide) ?_
    refine z_iconst (0 : Int32) dL_play_18 (by decide) ?_
    exact z_iret dL_play_19 rfl (by cases hf; rfl)
  · by_cases e0 : k3 = 0
    · rw [if_pos e0] at hf
      subst e0
      refine zx_catch (by decide) [] (0, 9, 12, 67) [(0, 9, 15, 28)] rfl (fun z hz => absurd hz List.not_mem_nil) (by decide) (by decide) wc_L_67 wct_0 fun q5 => ?_
      refine z_astore_n [(3, .ref q5), (0, .ref p1), (1, .int p2), (2, .ref p3)] dL_play_12 rfl (by decide) rfl ?_
      refine z_iconst (1 : Int32) dL_play_13 (by decide) ?_
      exact z_iret dL_play_14 rfl (by cases hf; rfl)
    · rw [if_neg e0] at hf
      by_cases e1 : k3 = 3
      · rw [if_pos e1] at hf
        subst e1
        refine zx_catch (by decide) [(0, 9, 12, 67)] (0, 9, 15, 28) [] rfl (List.forall_mem_cons.mpr ⟨⟨by decide, 0, by decide, by decide, wc_L_67⟩, fun z hz => absurd hz List.not_mem_nil⟩) (by decide) (by decide) wc_L_28 wct_3 fun q6 => ?_
        refine z_astore_n [(3, .ref q6), (0, .ref p1), (1, .int p2), (2, .ref p3)] dL_play_15 rfl (by decide) rfl ?_
        refine z_iconst (2 : Int32) dL_play_16 (by decide) ?_
        exact z_iret dL_play_17 rfl (by cases hf; rfl)
      · rw [if_neg e1] at hf
        cases hf
set_option maxRecDepth 4000 in
theorem zj_X9_noCard_26 {Γ : zG} {N d : Nat} {h0 : zH} (hd : 12 ≤ d)  {s0 : Nat} {s1 : Int32} {h : zH} {w : Int32 × zH} (hf : f_X9_noCard_j26 N  s0 s1 h = some w) : Z Γ m_X9_noCard d h0 (zoI w) 26 [] [.int s1, .ref s0] h := by
  unfold f_X9_noCard_j26 at hf
  refine z_iconst (2 : Int32) dX9_noCard_26 (by decide) ?_
  refine z_cV_i (d' := d - 1) (As := [.int s1, .int (2 : Int32)]) (rest := []) dX9_noCard_27 lk_X9_185 rfl hf (fun w1 e1 => zc_X9_fails (by omega) e1) (by omega) rfl rfl (Nat.le_of_ble_eq_true rfl) fun y5 hf => ?_
  obtain ⟨x6, hz, hf⟩ := Option.bind_eq_some_iff.mp hf
  obtain ⟨hb, rfl⟩ := zB_of hz
  exact z_zret dX9_noCard_30 rfl hb (by cases hf; rfl)
set_option maxRecDepth 4000 in
theorem zc_X9_noCard {Γ : zG} {N d : Nat} (hd : 12 ≤ d) {a : Nat} {p1 : Int32} {h : zH} {w : Int32 × zH} (hf : f_X9_noCard N a p1 h = some w) : Zm Γ m_X9_noCard d [.ref a, .int p1] h (zoI w) := by
  unfold f_X9_noCard at hf
  refine z_meth rfl (plainFor_of_name wpl_X9) (by simp [lg_sl, Value.category, zml, m_X9_noCard]) ?_
  refine z_aload_n 0 dX9_noCard_0 rfl rfl ?_
  refine z_iload_n 1 dX9_noCard_1 rfl rfl ?_
  refine z_iconst (0 : Int32) dX9_noCard_2 (by decide) ?_
  refine z_aload_n 0 dX9_noCard_3 rfl rfl ?_
  refine z_aload_n 0 dX9_noCard_4 rfl rfl ?_
  refine z_getA dX9_noCard_5 zc9 (by decide) wf_X9_17 hf fun x1 hf => ?_
  refine z_iconst (4 : Int32) dX9_noCard_8 (by decide) ?_
  refine z_iaload dX9_noCard_9 hf fun x2 hf => ?_
  refine z_cV_i (d' := d - 1) (As := [.int x2]) (rest := [.int (0 : Int32), .int p1, .ref a]) dX9_noCard_10 lk_X9_242 rfl hf (fun w1 e1 => zc_X9_cardsOf (by omega) e1) (by omega) rfl rfl (Nat.le_of_ble_eq_true rfl) fun y3 hf => ?_
  refine z_iconst (1 : Int32) dX9_noCard_13 (by decide) ?_
  refine z_isub dX9_noCard_14 ?_
  refine z_cS_i (d' := d - 1) (As := [.int p1, .int (0 : Int32), .int (y3.1 - (1 : Int32))]) (rest := [.ref a]) dX9_noCard_15 lk_X9_79 hf (fun w1 e1 => zc_X9_in (by omega) e1) (by omega) rfl rfl (Nat.le_of_ble_eq_true rfl) fun y4 hf => ?_
  refine z_if_ne 25 dX9_noCard_18 (by decide) hf (fun hf => ?_) (fun hf => ?_)
  · refine z_iconst (1 : Int32) dX9_noCard_21 (by decide) ?_
    refine z_goto 26 dX9_noCard_22 (by decide) ?_
    exact Z.sub [] rfl (zj_X9_noCard_26 hd hf)
  · refine z_iconst (0 : Int32) dX9_noCard_25 (by decide) ?_
    exact Z.sub [] rfl (zj_X9_noCard_26 hd hf)
set_option maxRecDepth 4000 in
theorem zc_X9_payPot {Γ : zG} {N d : Nat} (hd : 11 ≤ d) {a : Nat} {p1 : Int32} {p2 : Int32} {h : zH} {w : zH} (hf : f_X9_payPot N a p1 p2 h = some w) : Zm Γ m_X9_payPot d [.ref a, .int p1, .int p2] h (zoV w) := by
  unfold f_X9_payPot at hf
  refine z_meth rfl (plainFor_of_name wpl_X9) (by simp [lg_sl, Value.category, zml, m_X9_payPot]) ?_
  refine z_aload_n 0 dX9_payPot_0 rfl rfl ?_
  refine z_getA dX9_payPot_1 zc9 (by decide) wf_X9_17 hf fun x1 hf => ?_
  refine z_iload_n 1 dX9_payPot_4 rfl rfl ?_
  refine z_cS_i (d' := d - 1) (As := [.int p1]) (rest := [.ref x1]) dX9_payPot_5 lk_X9_201 hf (fun w1 e1 => zc_X9_at (by omega) e1) (by omega) rfl rfl (Nat.le_of_ble_eq_true rfl) fun y2 hf => ?_
  refine z_iconst (0 : Int32) dX9_payPot_8 (by decide) ?_
  refine z_iadd dX9_payPot_9 ?_
  refine z_dup2 dX9_payPot_10 rfl rfl ?_
  refine z_iaload dX9_payPot_11 hf fun x3 hf => ?_
  refine z_iload_n 2 dX9_payPot_12 rfl rfl ?_
  refine z_isub dX9_payPot_13 ?_
  refine z_iastore dX9_payPot_14 hf fun h4 hf => ?_
  refine z_aload_n 0 dX9_payPot_15 rfl rfl ?_
  refine z_getA dX9_payPot_16 zc9 (by decide) wf_X9_17 hf fun x5 hf => ?_
  refine z_bipush (6 : Int32) dX9_payPot_19 (by decide) ?_
  refine z_dup2 dX9_payPot_21 rfl rfl ?_
  refine z_iaload dX9_payPot_22 hf fun x6 hf => ?_
  refine z_iload_n 2 dX9_payPot_23 rfl rfl ?_
  refine z_iadd dX9_payPot_24 ?_
  refine z_iastore dX9_payPot_25 hf fun h7 hf => ?_
  exact z_vret dX9_payPot_26 rfl (by cases hf; rfl)
set_option maxRecDepth 4000 in
theorem zl_X9_dropCard_22 {Γ : zG} {N d : Nat} {h0 : zH} (hd : 11 ≤ d) {v0 : Nat} {v3 : Int32}  {w : zH}   : ∀ (n : Nat) (v4 : Int32) (h : zH), f_X9_dropCard_l22 N v0 v3 n v4 h = some w → Z Γ m_X9_dropCard d h0 (zoV w) 22 [(0, .ref v0), (3, .int v3), (4, .int v4)] [] h := by
  intro n
  induction n with
  | zero => intro v4 h hf; cases hf
  | succ n ih =>
    intro v4 h hf
    rw [f_X9_dropCard_l22] at hf
    refine z_iload 2 dX9_dropCard_22 rfl ?_
    refine z_iconst (2 : Int32) dX9_dropCard_24 (by decide) ?_
    refine z_aload_n 0 dX9_dropCard_25 rfl rfl ?_
    refine z_getA dX9_dropCard_26 zc9 (by decide) wf_X9_17 hf fun x5 hf => ?_
    refine z_iload_n 1 dX9_dropCard_29 rfl rfl ?_
    refine z_iconst (1 : Int32) dX9_dropCard_30 (by decide) ?_
    refine z_iadd dX9_dropCard_31 ?_
    refine z_iaload dX9_dropCard_32 hf fun x6 hf => ?_
    refine z_imul dX9_dropCard_33 ?_
    refine z_icmp_ge 67 dX9_dropCard_34 (by decide) hf (fun hf => ?_) (fun hf => ?_)
    · exact z_vret dX9_dropCard_67 rfl (by cases hf; rfl)
    · refine z_aload_n 0 dX9_dropCard_37 rfl rfl ?_
      refine z_getA dX9_dropCard_38 zc9 (by decide) wf_X9_17 hf fun x7 hf => ?_
      refine z_iload_n 1 dX9_dropCard_41 rfl rfl ?_
      refine z_iconst (3 : Int32) dX9_dropCard_42 (by decide) ?_
      refine z_iadd dX9_dropCard_43 ?_
      refine z_iload 2 dX9_dropCard_44 rfl ?_
      refine z_iadd dX9_dropCard_46 ?_
      refine z_aload_n 0 dX9_dropCard_47 rfl rfl ?_
      refine z_getA dX9_dropCard_48 zc9 (by decide) wf_X9_17 hf fun x8 hf => ?_
      refine z_iload_n 1 dX9_dropCard_51 rfl rfl ?_
      refine z_iconst (3 : Int32) dX9_dropCard_52 (by decide) ?_
      refine z_iadd dX9_dropCard_53 ?_
      refine z_iload 2 dX9_dropCard_54 rfl ?_
      refine z_iadd dX9_dropCard_56 ?_
      refine z_iconst (2 : Int32) dX9_dropCard_57 (by decide) ?_
      refine z_iadd dX9_dropCard_58 ?_
      refine z_iaload dX9_dropCard_59 hf fun x9 hf => ?_
      refine z_iastore dX9_dropCard_60 hf fun h10 hf => ?_
      refine z_iinc (v4 + (1 : Int32)) 2 [(4, .int (v4 + (1 : Int32))), (0, .ref v0), (3, .int v3)] dX9_dropCard_61 rfl rfl (by decide) rfl ?_
      refine z_goto 22 dX9_dropCard_64 (by decide) ?_
      exact Z.sub [1, 2, 0] rfl (ih (v4 + (1 : Int32)) h10 hf)
set_option maxRecDepth 4000 in
theorem zc_X9_dropCard {Γ : zG} {N d : Nat} (hd : 11 ≤ d) {a : Nat} {p1 : Int32} {p2 : Int32} {h : zH} {w : zH} (hf : f_X9_dropCard N a p1 p2 h = some w) : Zm Γ m_X9_dropCard d [.ref a, .int p1, .int p2] h (zoV w) := by
  unfold f_X9_dropCard at hf
  refine z_meth rfl (plainFor_of_name wpl_X9) (by simp [lg_sl, Value.category, zml, m_X9_dropCard]) ?_
  refine z_iload_n 1 dX9_dropCard_0 rfl rfl ?_
  refine z_cS_i (d' := d - 1) (As := [.int p1]) (rest := []) dX9_dropCard_1 lk_X9_201 hf (fun w1 e1 => zc_X9_at (by omega) e1) (by omega) rfl rfl (Nat.le_of_ble_eq_true rfl) fun y1 hf => ?_
  refine z_istore_n [(3, .int y1.1), (0, .ref a), (1, .int p1), (2, .int p2)] dX9_dropCard_4 rfl (by decide) rfl ?_
  refine z_aload_n 1 dX9_dropCard_5 rfl rfl ?_
  refine z_getA dX9_dropCard_6 zc9 (by decide) wf_X9_17 hf fun x2 hf => ?_
  refine z_iload_n 0 dX9_dropCard_9 rfl rfl ?_
  refine z_iconst (1 : Int32) dX9_dropCard_10 (by decide) ?_
  refine z_iadd dX9_dropCard_11 ?_
  refine z_dup2 dX9_dropCard_12 rfl rfl ?_
  refine z_iaload dX9_dropCard_13 hf fun x3 hf => ?_
  refine z_iconst (1 : Int32) dX9_dropCard_14 (by decide) ?_
  refine z_isub dX9_dropCard_15 ?_
  refine z_iastore dX9_dropCard_16 hf fun h4 hf => ?_
  refine z_iconst (2 : Int32) dX9_dropCard_17 (by decide) ?_
  refine z_iload_n 3 dX9_dropCard_18 rfl rfl ?_
  refine z_imul dX9_dropCard_19 ?_
  refine z_istore [(4, .int ((2 : Int32) * p2)), (3, .int y1.1), (0, .ref a), (1, .int p1), (2, .int p2)] dX9_dropCard_20 (by decide) rfl ?_
  refine Z.sub [2, 1, 0] rfl (zl_X9_dropCard_22 hd  N ((2 : Int32) * p2) h4 hf)
set_option maxRecDepth 4000 in
theorem zc_X9_payInto {Γ : zG} {N d : Nat} (hd : 11 ≤ d) {a : Nat} {p1 : Int32} {p2 : Int32} {h : zH} {w : zH} (hf : f_X9_payInto N a p1 p2 h = some w) : Zm Γ m_X9_payInto d [.ref a, .int p1, .int p2] h (zoV w) := by
  unfold f_X9_payInto at hf
  refine z_meth rfl (plainFor_of_name wpl_X9) (by simp [lg_sl, Value.category, zml, m_X9_payInto]) ?_
  refine z_aload_n 0 dX9_payInto_0 rfl rfl ?_
  refine z_getA dX9_payInto_1 zc9 (by decide) wf_X9_17 hf fun x1 hf => ?_
  refine z_iload_n 1 dX9_payInto_4 rfl rfl ?_
  refine z_cS_i (d' := d - 1) (As := [.int p1]) (rest := [.ref x1]) dX9_payInto_5 lk_X9_201 hf (fun w1 e1 => zc_X9_at (by omega) e1) (by omega) rfl rfl (Nat.le_of_ble_eq_true rfl) fun y2 hf => ?_
  refine z_iconst (0 : Int32) dX9_payInto_8 (by decide) ?_
  refine z_iadd dX9_payInto_9 ?_
  refine z_ldcw (999999 : Int32) dX9_payInto_10 wk_X9_288 ?_
  refine z_aload_n 0 dX9_payInto_13 rfl rfl ?_
  refine z_getA dX9_payInto_14 zc9 (by decide) wf_X9_17 hf fun x3 hf => ?_
  refine z_iload_n 1 dX9_payInto_17 rfl rfl ?_
  refine z_cS_i (d' := d - 1) (As := [.int p1]) (rest := [.ref x3, .int (999999 : Int32), .int (y2.1 + (0 : Int32)), .ref x1]) dX9_payInto_18 lk_X9_201 hf (fun w1 e1 => zc_X9_at (by omega) e1) (by omega) rfl rfl (Nat.le_of_ble_eq_true rfl) fun y4 hf => ?_
  refine z_iconst (0 : Int32) dX9_payInto_21 (by decide) ?_
  refine z_iadd dX9_payInto_22 ?_
  refine z_iaload dX9_payInto_23 hf fun x5 hf => ?_
  refine z_iload_n 2 dX9_payInto_24 rfl rfl ?_
  refine z_iadd dX9_payInto_25 ?_
  refine z_cS_i (d' := d - 1) (As := [.int (999999 : Int32), .int (x5 + p2)]) (rest := [.int (y2.1 + (0 : Int32)), .ref x1]) dX9_payInto_26 lk_X9_112 hf (fun w1 e1 => zc_X9_min (by omega) e1) (by omega) rfl rfl (Nat.le_of_ble_eq_true rfl) fun y6 hf => ?_
  refine z_iastore dX9_payInto_29 hf fun h7 hf => ?_
  exact z_vret dX9_payInto_30 rfl (by cases hf; rfl)
set_option maxRecDepth 4000 in
theorem zc_X9_nextLot {Γ : zG} {N d : Nat} (hd : 10 ≤ d) {a : Nat} {h : zH} {w : zH} (hf : f_X9_nextLot N a h = some w) : Zm Γ m_X9_nextLot d [.ref a] h (zoV w) := by
  unfold f_X9_nextLot at hf
  refine z_meth rfl (plainFor_of_name wpl_X9) (by simp [lg_sl, Value.category, zml, m_X9_nextLot]) ?_
  refine z_aload_n 0 dX9_nextLot_0 rfl rfl ?_
  refine z_getA dX9_nextLot_1 zc9 (by decide) wf_X9_17 hf fun x1 hf => ?_
  refine z_iconst (3 : Int32) dX9_nextLot_4 (by decide) ?_
  refine z_dup2 dX9_nextLot_5 rfl rfl ?_
  refine z_iaload dX9_nextLot_6 hf fun x2 hf => ?_
  refine z_iconst (1 : Int32) dX9_nextLot_7 (by decide) ?_
  refine z_iadd dX9_nextLot_8 ?_
  refine z_iastore dX9_nextLot_9 hf fun h3 hf => ?_
  refine z_aload_n 0 dX9_nextLot_10 rfl rfl ?_
  refine z_getA dX9_nextLot_11 zc9 (by decide) wf_X9_17 hf fun x4 hf => ?_
  refine z_iconst (5 : Int32) dX9_nextLot_14 (by decide) ?_
  refine z_iconst (0 : Int32) dX9_nextLot_15 (by decide) ?_
  refine z_iastore dX9_nextLot_16 hf fun h5 hf => ?_
  refine z_aload_n 0 dX9_nextLot_17 rfl rfl ?_
  refine z_getA dX9_nextLot_18 zc9 (by decide) wf_X9_17 hf fun x6 hf => ?_
  refine z_bipush (7 : Int32) dX9_nextLot_21 (by decide) ?_
  refine z_iconst (0 : Int32) dX9_nextLot_23 (by decide) ?_
  refine z_iastore dX9_nextLot_24 hf fun h7 hf => ?_
  refine z_aload_n 0 dX9_nextLot_25 rfl rfl ?_
  refine z_getA dX9_nextLot_26 zc9 (by decide) wf_X9_17 hf fun x8 hf => ?_
  refine z_bipush (6 : Int32) dX9_nextLot_29 (by decide) ?_
  refine z_iconst (0 : Int32) dX9_nextLot_31 (by decide) ?_
  refine z_iastore dX9_nextLot_32 hf fun h9 hf => ?_
  exact z_vret dX9_nextLot_33 rfl (by cases hf; rfl)
set_option maxRecDepth 4000 in
theorem zc_X9_nextTurn {Γ : zG} {N d : Nat} (hd : 10 ≤ d) {a : Nat} {h : zH} {w : zH} (hf : f_X9_nextTurn N a h = some w) : Zm Γ m_X9_nextTurn d [.ref a] h (zoV w) := by
  unfold f_X9_nextTurn at hf
  refine z_meth rfl (plainFor_of_name wpl_X9) (by simp [lg_sl, Value.category, zml, m_X9_nextTurn]) ?_
  refine z_aload_n 0 dX9_nextTurn_0 rfl rfl ?_
  refine z_getA dX9_nextTurn_1 zc9 (by decide) wf_X9_17 hf fun x1 hf => ?_
  refine z_iconst (4 : Int32) dX9_nextTurn_4 (by decide) ?_
  refine z_aload_n 0 dX9_nextTurn_5 rfl rfl ?_
  refine z_getA dX9_nextTurn_6 zc9 (by decide) wf_X9_17 hf fun x2 hf => ?_
  refine z_iconst (4 : Int32) dX9_nextTurn_9 (by decide) ?_
  refine z_iaload dX9_nextTurn_10 hf fun x3 hf => ?_
  refine z_iconst (1 : Int32) dX9_nextTurn_11 (by decide) ?_
  refine z_iadd dX9_nextTurn_12 ?_
  refine z_aload_n 0 dX9_nextTurn_13 rfl rfl ?_
  refine z_getA dX9_nextTurn_14 zc9 (by decide) wf_X9_17 hf fun x4 hf => ?_
  refine z_iconst (1 : Int32) dX9_nextTurn_17 (by decide) ?_
  refine z_iaload dX9_nextTurn_18 hf fun x5 hf => ?_
  refine z_irem dX9_nextTurn_19 hf fun x6 hf => ?_
  refine z_iastore dX9_nextTurn_20 hf fun h7 hf => ?_
  exact z_vret dX9_nextTurn_21 rfl (by cases hf; rfl)
set_option maxRecDepth 4000 in
theorem zj_X9_finish_89 {Γ : zG} {N d : Nat} {h0 : zH} (hd : 14 ≤ d) {v0 : Nat} {v2 : Int32}  {h : zH} {w : Int32 × zH} (hf : f_X9_finish_j89 N v0 v2  h = some w) : Z Γ m_X9_finish d h0 (zoI w) 89 [(0, .ref v0), (2, .int v2)] [] h := by
  unfold f_X9_finish_j89 at hf
  refine z_aload_n 0 dX9_finish_89 rfl rfl ?_
  refine z_cV_v (d' := d - 1) (As := []) (rest := []) dX9_finish_90 lk_X9_295 rfl hf (fun w1 e1 => zc_X9_nextTurn (by omega) e1) (by omega) rfl rfl (Nat.le_of_ble_eq_true rfl) fun y5 hf => ?_
  refine z_iload_n 1 dX9_finish_93 rfl rfl ?_
  refine z_if_eq 101 dX9_finish_94 (by decide) hf (fun hf => ?_) (fun hf => ?_)
  · refine z_iconst (0 : Int32) dX9_finish_101 (by decide) ?_
    exact z_iret dX9_finish_102 rfl (by cases hf; rfl)
  · refine z_iconst (1 : Int32) dX9_finish_97 (by decide) ?_
    refine z_goto 102 dX9_finish_98 (by decide) ?_
    exact z_iret dX9_finish_102 rfl (by cases hf; rfl)
set_option maxRecDepth 4000 in
theorem zj_X9_finish_38 {Γ : zG} {N d : Nat} {h0 : zH} (hd : 14 ≤ d) {v0 : Nat} {v1 : Int32} {s0 : Int32} {h : zH} {w : Int32 × zH} (hf : f_X9_finish_j38 N v0 v1 s0 h = some w) : Z Γ m_X9_finish d h0 (zoI w) 38 [(0, .ref v0), (1, .int v1)] [.int s0] h := by
  unfold f_X9_finish_j38 at hf
  refine z_istore_n [(2, .int s0), (0, .ref v0), (1, .int v1)] dX9_finish_38 rfl (by decide) rfl ?_
  refine z_iload_n 0 dX9_finish_39 rfl rfl ?_
  refine z_if_eq 89 dX9_finish_40 (by decide) hf (fun hf => ?_) (fun hf => ?_)
  · exact Z.sub [1, 0] rfl (zj_X9_finish_89 hd hf)
  · refine z_aload_n 1 dX9_finish_43 rfl rfl ?_
    refine z_iload_n 2 dX9_finish_44 rfl rfl ?_
    refine z_aload_n 1 dX9_finish_45 rfl rfl ?_
    refine z_getA dX9_finish_46 zc9 (by decide) wf_X9_17 hf fun x6 hf => ?_
    refine z_bipush (106 : Int32) dX9_finish_49 (by decide) ?_
    refine z_aload_n 1 dX9_finish_51 rfl rfl ?_
    refine z_getA dX9_finish_52 zc9 (by decide) wf_X9_17 hf fun x7 hf => ?_
    refine z_iconst (3 : Int32) dX9_finish_55 (by decide) ?_
    refine z_iaload dX9_finish_56 hf fun x8 hf => ?_
    refine z_iadd dX9_finish_57 ?_
    refine z_iaload dX9_finish_58 hf fun x9 hf => ?_
    refine z_aload_n 1 dX9_finish_59 rfl rfl ?_
    refine z_getA dX9_finish_60 zc9 (by decide) wf_X9_17 hf fun x10 hf => ?_
    refine z_bipush (6 : Int32) dX9_finish_63 (by decide) ?_
    refine z_iaload dX9_finish_65 hf fun x11 hf => ?_
    refine z_iadd dX9_finish_66 ?_
    refine z_cV_v (d' := d - 1) (As := [.int v1, .int (x9 + x11)]) (rest := []) dX9_finish_67 lk_X9_289 rfl hf (fun w1 e1 => zc_X9_payInto (by omega) e1) (by omega) rfl rfl (Nat.le_of_ble_eq_true rfl) fun y12 hf => ?_
    refine z_aload_n 1 dX9_finish_70 rfl rfl ?_
    refine z_getA dX9_finish_71 zc9 (by decide) wf_X9_17 hf fun x13 hf => ?_
    refine z_iload_n 2 dX9_finish_74 rfl rfl ?_
    refine z_cS_i (d' := d - 1) (As := [.int v1]) (rest := [.ref x13]) dX9_finish_75 lk_X9_201 hf (fun w1 e1 => zc_X9_at (by omega) e1) (by omega) rfl rfl (Nat.le_of_ble_eq_true rfl) fun y14 hf => ?_
    refine z_iconst (2 : Int32) dX9_finish_78 (by decide) ?_
    refine z_iadd dX9_finish_79 ?_
    refine z_dup2 dX9_finish_80 rfl rfl ?_
    refine z_iaload dX9_finish_81 hf fun x15 hf => ?_
    refine z_iconst (1 : Int32) dX9_finish_82 (by decide) ?_
    refine z_iadd dX9_finish_83 ?_
    refine z_iastore dX9_finish_84 hf fun h16 hf => ?_
    refine z_aload_n 1 dX9_finish_85 rfl rfl ?_
    refine z_cV_v (d' := d - 1) (As := []) (rest := []) dX9_finish_86 lk_X9_292 rfl hf (fun w1 e1 => zc_X9_nextLot (by omega) e1) (by omega) rfl rfl (Nat.le_of_ble_eq_true rfl) fun y17 hf => ?_
    exact Z.sub [1, 0] rfl (zj_X9_finish_89 hd hf)
set_option maxRecDepth 4000 in
theorem zj_X9_finish_37 {Γ : zG} {N d : Nat} {h0 : zH} (hd : 14 ≤ d) {v0 : Nat} {v1 : Int32}  {h : zH} {w : Int32 × zH} (hf : f_X9_finish_j37 N v0 v1  h = some w) : Z Γ m_X9_finish d h0 (zoI w) 37 [(0, .ref v0), (1, .int v1)] [] h := by
  unfold f_X9_finish_j37 at hf
  refine z_iconst (0 : Int32) dX9_finish_37 (by decide) ?_
  exact Z.sub [0, 1] rfl (zj_X9_finish_38 hd hf)
set_option maxRecDepth 4000 in
theorem zc_X9_finish {Γ : zG} {N d : Nat} (hd : 14 ≤ d) {a : Nat} {p1 : Int32} {h : zH} {w : Int32 × zH} (hf : f_X9_finish N a p1 h = some w) : Zm Γ m_X9_finish d [.ref a, .int p1] h (zoI w) := by
  unfold f_X9_finish at hf
  refine z_meth rfl (plainFor_of_name wpl_X9) (by simp [lg_sl, Value.category, zml, m_X9_finish]) ?_
  refine z_aload_n 0 dX9_finish_0 rfl rfl ?_
  refine z_getA dX9_finish_1 zc9 (by decide) wf_X9_17 hf fun x1 hf => ?_
  refine z_bipush (7 : Int32) dX9_finish_4 (by decide) ?_
  refine z_iconst (0 : Int32) dX9_finish_6 (by decide) ?_
  refine z_iastore dX9_finish_7 hf fun h2 hf => ?_
  refine z_aload_n 0 dX9_finish_8 rfl rfl ?_
  refine z_getA dX9_finish_9 zc9 (by decide) wf_X9_17 hf fun x3 hf => ?_
  refine z_iconst (5 : Int32) dX9_finish_12 (by decide) ?_
  refine z_iaload dX9_finish_13 hf fun x4 hf => ?_
  refine z_if_le 37 dX9_finish_14 (by decide) hf (fun hf => ?_) (fun hf => ?_)
  · exact Z.sub [0, 1] rfl (zj_X9_finish_37 hd hf)
  · refine z_aload_n 0 dX9_finish_17 rfl rfl ?_
    refine z_cV_i (d' := d - 1) (As := []) (rest := []) dX9_finish_18 lk_X9_263 rfl hf (fun w1 e1 => zc_X9_productNow (by omega) e1) (by omega) rfl rfl (Nat.le_of_ble_eq_true rfl) fun y18 hf => ?_
    refine z_aload_n 0 dX9_finish_21 rfl rfl ?_
    refine z_getA dX9_finish_22 zc9 (by decide) wf_X9_17 hf fun x19 hf => ?_
    refine z_iconst (0 : Int32) dX9_finish_25 (by decide) ?_
    refine z_iaload dX9_finish_26 hf fun x20 hf => ?_
    refine z_cS_i (d' := d - 1) (As := [.int x20]) (rest := [.int y18.1]) dX9_finish_27 lk_X9_54 hf (fun w1 e1 => zc_X9_neutral (by omega) e1) (by omega) rfl rfl (Nat.le_of_ble_eq_true rfl) fun y21 hf => ?_
    refine z_icmp_ne 37 dX9_finish_30 (by decide) hf (fun hf => ?_) (fun hf => ?_)
    · refine z_iconst (1 : Int32) dX9_finish_33 (by decide) ?_
      refine z_goto 38 dX9_finish_34 (by decide) ?_
      exact Z.sub [0, 1] rfl (zj_X9_finish_38 hd hf)
    · exact Z.sub [0, 1] rfl (zj_X9_finish_37 hd hf)
set_option maxRecDepth 4000 in
theorem zc_X9_play {Γ : zG} {N d : Nat} (hd : 15 ≤ d) {a : Nat} {p1 : Int32} {h : zH} {w : Int32 × zH} (hf : f_X9_play N a p1 h = some w) : Zm Γ m_X9_play d [.ref a, .int p1] h (zoI w) := by
  unfold f_X9_play at hf
  refine z_meth rfl (plainFor_of_name wpl_X9) (by simp [lg_sl, Value.category, zml, m_X9_play]) ?_
  refine z_aload_n 0 dX9_play_0 rfl rfl ?_
  refine z_iconst (0 : Int32) dX9_play_1 (by decide) ?_
  refine z_putB dX9_play_2 zc9 (by decide) wf_X9_46 (Or.inl rfl) rfl rfl hf fun h1 hf => ?_
  refine z_aload_n 0 dX9_play_5 rfl rfl ?_
  refine z_aload_n 0 dX9_play_6 rfl rfl ?_
  refine z_cV_i (d' := d - 1) (As := []) (rest := [.ref a]) dX9_play_7 lk_X9_248 rfl hf (fun w1 e1 => zc_X9_isOver (by omega) e1) (by omega) rfl rfl (Nat.le_of_ble_eq_true rfl) fun y2 hf => ?_
  refine z_iconst (1 : Int32) dX9_play_10 (by decide) ?_
  refine z_cV_i (d' := d - 1) (As := [.int y2.1, .int (1 : Int32)]) (rest := []) dX9_play_11 lk_X9_185 rfl hf (fun w1 e1 => zc_X9_fails (by omega) e1) (by omega) rfl rfl (Nat.le_of_ble_eq_true rfl) fun y3 hf => ?_
  refine z_if_ne 25 dX9_play_14 (by decide) hf (fun hf => ?_) (fun hf => ?_)
  · refine z_aload_n 0 dX9_play_17 rfl rfl ?_
    refine z_iload_n 1 dX9_play_18 rfl rfl ?_
    refine z_cV_i (d' := d - 1) (As := [.int p1]) (rest := []) dX9_play_19 lk_X9_298 rfl hf (fun w1 e1 => zc_X9_noCard (by omega) e1) (by omega) rfl rfl (Nat.le_of_ble_eq_true rfl) fun y4 hf => ?_
    refine z_if_eq 27 dX9_play_22 (by decide) hf (fun hf => ?_) (fun hf => ?_)
    · refine z_aload_n 0 dX9_play_27 rfl rfl ?_
      refine z_cV_v (d' := d - 1) (As := []) (rest := []) dX9_play_28 lk_X9_194 rfl hf (fun w1 e1 => zc_X9_remember (by omega) e1) (by omega) rfl rfl (Nat.le_of_ble_eq_true rfl) fun y5 hf => ?_
      refine z_aload_n 0 dX9_play_31 rfl rfl ?_
      refine z_getA dX9_play_32 zc9 (by decide) wf_X9_17 hf fun x6 hf => ?_
      refine z_iconst (4 : Int32) dX9_play_35 (by decide) ?_
      refine z_iaload dX9_play_36 hf fun x7 hf => ?_
      refine z_istore_n [(2, .int x7), (0, .ref a), (1, .int p1)] dX9_play_37 rfl (by decide) rfl ?_
      refine z_aload_n 1 dX9_play_38 rfl rfl ?_
      refine z_iload_n 0 dX9_play_39 rfl rfl ?_
      refine z_iload_n 2 dX9_play_40 rfl rfl ?_
      refine z_cV_i (d' := d - 1) (As := [.int x7, .int p1]) (rest := []) dX9_play_41 lk_X9_257 rfl hf (fun w1 e1 => zc_X9_priceOf (by omega) e1) (by omega) rfl rfl (Nat.le_of_ble_eq_true rfl) fun y8 hf => ?_
      refine z_istore_n [(3, .int y8.1), (2, .int x7), (0, .ref a), (1, .int p1)] dX9_play_44 rfl (by decide) rfl ?_
      refine z_bipush (118 : Int32) dX9_play_45 (by decide) ?_
      refine z_iconst (3 : Int32) dX9_play_47 (by decide) ?_
      refine z_aload_n 2 dX9_play_48 rfl rfl ?_
      refine z_getA dX9_play_49 zc9 (by decide) wf_X9_17 hf fun x9 hf => ?_
      refine z_iconst (5 : Int32) dX9_play_52 (by decide) ?_
      refine z_iaload dX9_play_53 hf fun x10 hf => ?_
      refine z_imul dX9_play_54 ?_
      refine z_iadd dX9_play_55 ?_
      refine z_istore [(4, .int ((118 : Int32) + ((3 : Int32) * x10))), (3, .int y8.1), (2, .int x7), (0, .ref a), (1, .int p1)] dX9_play_56 (by decide) rfl ?_
      refine z_aload_n 3 dX9_play_58 rfl rfl ?_
      refine z_getA dX9_play_59 zc9 (by decide) wf_X9_17 hf fun x11 hf => ?_
      refine z_iconst (5 : Int32) dX9_play_62 (by decide) ?_
      refine z_iaload dX9_play_63 hf fun x12 hf => ?_
      refine z_bipush (20 : Int32) dX9_play_64 (by decide) ?_
      refine z_icmp_eq 84 dX9_play_66 (by decide) hf (fun hf => ?_) (fun hf => ?_)
      · refine z_iconst (-1 : Int32) dX9_play_84 (by decide) ?_
        exact z_iret dX9_play_85 rfl (by cases hf; rfl)
      · refine z_aload_n 3 dX9_play_69 rfl rfl ?_
        refine z_getA dX9_play_70 zc9 (by decide) wf_X9_17 hf fun x13 hf => ?_
        refine z_iload_n 2 dX9_play_73 rfl rfl ?_
        refine z_cS_i (d' := d - 1) (As := [.int x7]) (rest := [.ref x13]) dX9_play_74 lk_X9_201 hf (fun w1 e1 => zc_X9_at (by omega) e1) (by omega) rfl rfl (Nat.le_of_ble_eq_true rfl) fun y14 hf => ?_
        refine z_iconst (0 : Int32) dX9_play_77 (by decide) ?_
        refine z_iadd dX9_play_78 ?_
        refine z_iaload dX9_play_79 hf fun x15 hf => ?_
        refine z_iload_n 1 dX9_play_80 rfl rfl ?_
        refine z_icmp_ge 86 dX9_play_81 (by decide) hf (fun hf => ?_) (fun hf => ?_)
        · refine z_aload_n 3 dX9_play_86 rfl rfl ?_
          refine z_iload_n 2 dX9_play_87 rfl rfl ?_
          refine z_iload_n 1 dX9_play_88 rfl rfl ?_
          refine z_cV_v (d' := d - 1) (As := [.int x7, .int y8.1]) (rest := []) dX9_play_89 lk_X9_301 rfl hf (fun w1 e1 => zc_X9_payPot (by omega) e1) (by omega) rfl rfl (Nat.le_of_ble_eq_true rfl) fun y16 hf => ?_
          refine z_aload_n 3 dX9_play_92 rfl rfl ?_
          refine z_getA dX9_play_93 zc9 (by decide) wf_X9_17 hf fun x17 hf => ?_
          refine z_iload 0 dX9_play_96 rfl ?_
          refine z_iload_n 2 dX9_play_98 rfl rfl ?_
          refine z_iastore dX9_play_99 hf fun h18 hf => ?_
          refine z_aload_n 3 dX9_play_100 rfl rfl ?_
          refine z_getA dX9_play_101 zc9 (by decide) wf_X9_17 hf fun x19 hf => ?_
          refine z_iload 0 dX9_play_104 rfl ?_
          refine z_iconst (1 : Int32) dX9_play_106 (by decide) ?_
          refine z_iadd dX9_play_107 ?_
          refine z_aload_n 3 dX9_play_108 rfl rfl ?_
          refine z_iload_n 2 dX9_play_109 rfl rfl ?_
          refine z_iload_n 4 dX9_play_110 rfl rfl ?_
          refine z_cV_i (d' := d - 1) (As := [.int x7, .int p1]) (rest := [.int (((118 : Int32) + ((3 : Int32) * x10)) + (1 : Int32)), .ref x19]) dX9_play_111 lk_X9_221 rfl hf (fun w1 e1 => zc_X9_elementOf (by omega) e1) (by omega) rfl rfl (Nat.le_of_ble_eq_true rfl) fun y20 hf => ?_
          refine z_iastore dX9_play_114 hf fun h21 hf => ?_
          refine z_aload_n 3 dX9_play_115 rfl rfl ?_
          refine z_getA dX9_play_116 zc9 (by decide) wf_X9_17 hf fun x22 hf => ?_
          refine z_iload 0 dX9_play_119 rfl ?_
          refine z_iconst (2 : Int32) dX9_play_121 (by decide) ?_
          refine z_iadd dX9_play_122 ?_
          refine z_iload_n 1 dX9_play_123 rfl rfl ?_
          refine z_iastore dX9_play_124 hf fun h23 hf => ?_
          refine z_aload_n 3 dX9_play_125 rfl rfl ?_
          refine z_getA dX9_play_126 zc9 (by decide) wf_X9_17 hf fun x24 hf => ?_
          refine z_iconst (5 : Int32) dX9_play_129 (by decide) ?_
          refine z_dup2 dX9_play_130 rfl rfl ?_
          refine z_iaload dX9_play_131 hf fun x25 hf => ?_
          refine z_iconst (1 : Int32) dX9_play_132 (by decide) ?_
          refine z_iadd dX9_play_133 ?_
          refine z_iastore dX9_play_134 hf fun h26 hf => ?_
          refine z_aload_n 3 dX9_play_135 rfl rfl ?_
          refine z_iload_n 2 dX9_play_136 rfl rfl ?_
          refine z_iload_n 4 dX9_play_137 rfl rfl ?_
          refine z_cV_v (d' := d - 1) (As := [.int x7, .int p1]) (rest := []) dX9_play_138 lk_X9_304 rfl hf (fun w1 e1 => zc_X9_dropCard (by omega) e1) (by omega) rfl rfl (Nat.le_of_ble_eq_true rfl) fun y27 hf => ?_
          refine z_aload_n 3 dX9_play_141 rfl rfl ?_
          refine z_iload_n 2 dX9_play_142 rfl rfl ?_
          refine z_cV_i (d' := d - 1) (As := [.int x7]) (rest := []) dX9_play_143 lk_X9_307 rfl hf (fun w1 e1 => zc_X9_finish (by omega) e1) (by omega) rfl rfl (Nat.le_of_ble_eq_true rfl) fun y28 hf => ?_
          exact z_iret dX9_play_146 rfl (by cases hf; rfl)
        · refine z_iconst (-1 : Int32) dX9_play_84 (by decide) ?_
          exact z_iret dX9_play_85 rfl (by cases hf; rfl)
    · refine z_iconst (0 : Int32) dX9_play_25 (by decide) ?_
      exact z_iret dX9_play_26 rfl (by cases hf; rfl)
  · refine z_iconst (0 : Int32) dX9_play_25 (by decide) ?_
    exact z_iret dX9_play_26 rfl (by cases hf; rfl)
set_option maxRecDepth 4000 in
theorem zj_X0_cancelBid_83 {Γ : zG} {N d : Nat} {h0 : zH} (hd : 14 ≤ d) {v0 : Nat} {v1 : Int32} {v2 : Int32} {v3 : Nat} {v4 : Nat} {v5 : Int32} {v6 : Int32} {s0 : Int32} {h : zH} {w : Int32 × zH} (hf : f_X0_cancelBid_j83 N v0 v1 v2 v3 v4 v5 v6 s0 h = some w) : Z Γ m_X0_cancelBid d h0 (zoI w) 83 [(0, .ref v0), (1, .int v1), (2, .int v2), (3, .ref v3), (4, .ref v4), (5, .int v5), (6, .int v6)] [.int s0] h := by
  unfold f_X0_cancelBid_j83 at hf
  refine z_istore [(7, .int s0), (0, .ref v0), (1, .int v1), (2, .int v2), (3, .ref v3), (4, .ref v4), (5, .int v5), (6, .int v6)] dX0_cancelBid_83 (by decide) rfl ?_
  refine z_iload 0 dX0_cancelBid_85 rfl ?_
  refine z_if_eq 106 dX0_cancelBid_87 (by decide) hf (fun hf => ?_) (fun hf => ?_)
  · refine z_iconst (-1 : Int32) dX0_cancelBid_106 (by decide) ?_
    exact z_iret dX0_cancelBid_107 rfl (by cases hf; rfl)
  · refine z_iload 6 dX0_cancelBid_90 rfl ?_
    refine z_iload 7 dX0_cancelBid_92 rfl ?_
    refine z_icmp_lt 106 dX0_cancelBid_94 (by decide) hf (fun hf => ?_) (fun hf => ?_)
    · refine z_iconst (-1 : Int32) dX0_cancelBid_106 (by decide) ?_
      exact z_iret dX0_cancelBid_107 rfl (by cases hf; rfl)
    · refine z_aload_n 4 dX0_cancelBid_97 rfl rfl ?_
      refine z_getI dX0_cancelBid_98 zc1 (by decide) wf_X0_139 hf fun x21 hf => ?_
      refine z_iload 6 dX0_cancelBid_101 rfl ?_
      refine z_icmp_ge 108 dX0_cancelBid_103 (by decide) hf (fun hf => ?_) (fun hf => ?_)
      · refine z_aload_n 4 dX0_cancelBid_108 rfl rfl ?_
        refine z_dup dX0_cancelBid_109 rfl ?_
        refine z_getI dX0_cancelBid_110 zc1 (by decide) wf_X0_139 hf fun x22 hf => ?_
        refine z_iload 6 dX0_cancelBid_113 rfl ?_
        refine z_isub dX0_cancelBid_115 ?_
        refine z_putB dX0_cancelBid_116 zc1 (by decide) wf_X0_139 (Or.inl rfl) rfl rfl hf fun h23 hf => ?_
        refine z_aload_n 1 dX0_cancelBid_119 rfl rfl ?_
        refine z_dup dX0_cancelBid_120 rfl ?_
        refine z_getI dX0_cancelBid_121 zc0 (by decide) wf_X0_81 hf fun x24 hf => ?_
        refine z_iload 6 dX0_cancelBid_124 rfl ?_
        refine z_iload 7 dX0_cancelBid_126 rfl ?_
        refine z_isub dX0_cancelBid_128 ?_
        refine z_iadd dX0_cancelBid_129 ?_
        refine z_putB dX0_cancelBid_130 zc0 (by decide) wf_X0_81 (Or.inl rfl) rfl rfl hf fun h25 hf => ?_
        refine z_aload 5 dX0_cancelBid_133 rfl ?_
        refine z_iload 7 dX0_cancelBid_135 rfl ?_
        refine z_cV_v (d' := d - 1) (As := [.int v6]) (rest := []) dX0_cancelBid_137 lk_X0_152 rfl hf (fun w1 e1 => zc_X1_receive (by omega) e1) (by omega) rfl rfl (Nat.le_of_ble_eq_true rfl) fun y26 hf => ?_
        refine z_aload_n 1 dX0_cancelBid_140 rfl rfl ?_
        refine z_getA dX0_cancelBid_141 zc0 (by decide) wf_X0_31 hf fun x27 hf => ?_
        refine z_iload_n 3 dX0_cancelBid_144 rfl rfl ?_
        refine z_cV_v (d' := d - 1) (As := [.int v2]) (rest := []) dX0_cancelBid_145 lk_X0_155 rfl hf (fun w1 e1 => zc_X6_remove (by omega) e1) (by omega) rfl rfl (Nat.le_of_ble_eq_true rfl) fun y28 hf => ?_
        refine z_aload_n 1 dX0_cancelBid_148 rfl rfl ?_
        refine z_getA dX0_cancelBid_149 zc0 (by decide) wf_X0_34 hf fun x29 hf => ?_
        refine z_iload_n 3 dX0_cancelBid_152 rfl rfl ?_
        refine z_cV_v (d' := d - 1) (As := [.int v2]) (rest := []) dX0_cancelBid_153 lk_X0_155 rfl hf (fun w1 e1 => zc_X6_remove (by omega) e1) (by omega) rfl rfl (Nat.le_of_ble_eq_true rfl) fun y30 hf => ?_
        refine z_aload_n 1 dX0_cancelBid_156 rfl rfl ?_
        refine z_getA dX0_cancelBid_157 zc0 (by decide) wf_X0_37 hf fun x31 hf => ?_
        refine z_iload_n 3 dX0_cancelBid_160 rfl rfl ?_
        refine z_cV_v (d' := d - 1) (As := [.int v2]) (rest := []) dX0_cancelBid_161 lk_X0_155 rfl hf (fun w1 e1 => zc_X6_remove (by omega) e1) (by omega) rfl rfl (Nat.le_of_ble_eq_true rfl) fun y32 hf => ?_
        refine z_aload_n 4 dX0_cancelBid_164 rfl rfl ?_
        refine z_iload_n 2 dX0_cancelBid_165 rfl rfl ?_
        refine z_cV_v (d' := d - 1) (As := [.int v1]) (rest := []) dX0_cancelBid_166 lk_X0_145 rfl hf (fun w1 e1 => zc_X1_dropCard (by omega) e1) (by omega) rfl rfl (Nat.le_of_ble_eq_true rfl) fun y33 hf => ?_
        refine z_aload_n 1 dX0_cancelBid_169 rfl rfl ?_
        refine z_aload_n 4 dX0_cancelBid_170 rfl rfl ?_
        refine z_cV_i (d' := d - 1) (As := [.ref v3]) (rest := []) dX0_cancelBid_171 lk_X0_148 rfl hf (fun w1 e1 => zc_X0_endMove (by omega) e1) (by omega) rfl rfl (Nat.le_of_ble_eq_true rfl) fun y34 hf => ?_
        exact z_iret dX0_cancelBid_174 rfl (by cases hf; rfl)
      · refine z_iconst (-1 : Int32) dX0_cancelBid_106 (by decide) ?_
        exact z_iret dX0_cancelBid_107 rfl (by cases hf; rfl)
set_option maxRecDepth 4000 in
theorem zc_X0_cancelBid {Γ : zG} {N d : Nat} (hd : 14 ≤ d) {a : Nat} {p1 : Int32} {p2 : Int32} {h : zH} {w : Int32 × zH} (hf : f_X0_cancelBid N a p1 p2 h = some w) : Zm Γ m_X0_cancelBid d [.ref a, .int p1, .int p2] h (zoI w) := by
  unfold f_X0_cancelBid at hf
  refine z_meth rfl (plainFor_of_name wpl_X0) (by simp [lg_sl, Value.category, zml, m_X0_cancelBid]) ?_
  refine z_aload_n 0 dX0_cancelBid_0 rfl rfl ?_
  refine z_aload_n 0 dX0_cancelBid_1 rfl rfl ?_
  refine z_getI dX0_cancelBid_2 zc0 (by decide) wf_X0_65 hf fun x1 hf => ?_
  refine z_cV_n (d' := d - 1) (As := [.int x1]) (rest := []) dX0_cancelBid_5 lk_X0_127 rfl hf (fun w1 e1 => zc_X0_bidder (by omega) e1) (by omega) rfl rfl (Nat.le_of_ble_eq_true rfl) (fun y2 hf => ?_) (fun y2 x3 hf => ?_)
  · refine z_astore_nN [(3, .null), (0, .ref a), (1, .int p1), (2, .int p2)] dX0_cancelBid_8 rfl (by decide) rfl ?_
    refine z_aload_n 1 dX0_cancelBid_9 rfl rfl ?_
    refine z_aload_n 1 dX0_cancelBid_10 rfl rfl ?_
    refine z_getA dX0_cancelBid_11 zc0 (by decide) wf_X0_31 hf fun x4 hf => ?_
    refine z_iload_n 3 dX0_cancelBid_14 rfl rfl ?_
    refine z_cV_i (d' := d - 1) (As := [.int p2]) (rest := [.ref a]) dX0_cancelBid_15 lk_X0_94 rfl hf (fun w1 e1 => zc_X6_at (by omega) e1) (by omega) rfl rfl (Nat.le_of_ble_eq_true rfl) fun y5 hf => ?_
    refine z_cV_n (d' := d - 1) (As := [.int y5.1]) (rest := []) dX0_cancelBid_18 lk_X0_127 rfl hf (fun w1 e1 => zc_X0_bidder (by omega) e1) (by omega) rfl rfl (Nat.le_of_ble_eq_true rfl) (fun y6 hf => ?_) (fun y6 x7 hf => ?_)
    · refine z_astoreN [(4, .null), (3, .null), (0, .ref a), (1, .int p1), (2, .int p2)] dX0_cancelBid_21 (by decide) rfl ?_
      refine z_aload_nN 1 dX0_cancelBid_23 rfl rfl ?_
      refine z_ifnullN 32 dX0_cancelBid_24 (by decide) ?_
      refine z_iconst (-1 : Int32) dX0_cancelBid_32 (by decide) ?_
      exact z_iret dX0_cancelBid_33 rfl (by cases hf; rfl)
    · refine z_astore [(4, .ref x7), (3, .null), (0, .ref a), (1, .int p1), (2, .int p2)] dX0_cancelBid_21 (by decide) rfl ?_
      refine z_aload_nN 1 dX0_cancelBid_23 rfl rfl ?_
      refine z_ifnullN 32 dX0_cancelBid_24 (by decide) ?_
      refine z_iconst (-1 : Int32) dX0_cancelBid_32 (by decide) ?_
      exact z_iret dX0_cancelBid_33 rfl (by cases hf; rfl)
  · refine z_astore_n [(3, .ref x3), (0, .ref a), (1, .int p1), (2, .int p2)] dX0_cancelBid_8 rfl (by decide) rfl ?_
    refine z_aload_n 1 dX0_cancelBid_9 rfl rfl ?_
    refine z_aload_n 1 dX0_cancelBid_10 rfl rfl ?_
    refine z_getA dX0_cancelBid_11 zc0 (by decide) wf_X0_31 hf fun x8 hf => ?_
    refine z_iload_n 3 dX0_cancelBid_14 rfl rfl ?_
    refine z_cV_i (d' := d - 1) (As := [.int p2]) (rest := [.ref a]) dX0_cancelBid_15 lk_X0_94 rfl hf (fun w1 e1 => zc_X6_at (by omega) e1) (by omega) rfl rfl (Nat.le_of_ble_eq_true rfl) fun y9 hf => ?_
    refine z_cV_n (d' := d - 1) (As := [.int y9.1]) (rest := []) dX0_cancelBid_18 lk_X0_127 rfl hf (fun w1 e1 => zc_X0_bidder (by omega) e1) (by omega) rfl rfl (Nat.le_of_ble_eq_true rfl) (fun y10 hf => ?_) (fun y10 x11 hf => ?_)
    · refine z_astoreN [(4, .null), (3, .ref x3), (0, .ref a), (1, .int p1), (2, .int p2)] dX0_cancelBid_21 (by decide) rfl ?_
      refine z_aload_n 1 dX0_cancelBid_23 rfl rfl ?_
      refine z_ifnull dX0_cancelBid_24 ?_
      refine z_aloadN 0 dX0_cancelBid_27 rfl ?_
      refine z_ifnonnullN dX0_cancelBid_29 ?_
      refine z_iconst (-1 : Int32) dX0_cancelBid_32 (by decide) ?_
      exact z_iret dX0_cancelBid_33 rfl (by cases hf; rfl)
    · refine z_astore [(4, .ref x11), (3, .ref x3), (0, .ref a), (1, .int p1), (2, .int p2)] dX0_cancelBid_21 (by decide) rfl ?_
      refine z_aload_n 1 dX0_cancelBid_23 rfl rfl ?_
      refine z_ifnull dX0_cancelBid_24 ?_
      refine z_aload 0 dX0_cancelBid_27 rfl ?_
      refine z_ifnonnull 34 dX0_cancelBid_29 (by decide) ?_
      refine z_aload_n 2 dX0_cancelBid_34 rfl rfl ?_
      refine z_aload_n 1 dX0_cancelBid_35 rfl rfl ?_
      refine z_iload_n 3 dX0_cancelBid_36 rfl rfl ?_
      refine z_cV_i (d' := d - 1) (As := [.ref x3, .int p1]) (rest := []) dX0_cancelBid_37 lk_X0_131 rfl hf (fun w1 e1 => zc_X0_priceOf (by omega) e1) (by omega) rfl rfl (Nat.le_of_ble_eq_true rfl) fun y12 hf => ?_
      refine z_istore [(5, .int y12.1), (4, .ref x11), (3, .ref x3), (0, .ref a), (1, .int p1), (2, .int p2)] dX0_cancelBid_40 (by decide) rfl ?_
      refine z_aload_n 3 dX0_cancelBid_42 rfl rfl ?_
      refine z_getA dX0_cancelBid_43 zc0 (by decide) wf_X0_37 hf fun x13 hf => ?_
      refine z_iload_n 5 dX0_cancelBid_46 rfl rfl ?_
      refine z_cV_i (d' := d - 1) (As := [.int p2]) (rest := []) dX0_cancelBid_47 lk_X0_94 rfl hf (fun w1 e1 => zc_X6_at (by omega) e1) (by omega) rfl rfl (Nat.le_of_ble_eq_true rfl) fun y14 hf => ?_
      refine z_istore [(6, .int y14.1), (5, .int y12.1), (4, .ref x11), (3, .ref x3), (0, .ref a), (1, .int p1), (2, .int p2)] dX0_cancelBid_50 (by decide) rfl ?_
      refine z_aload_n 4 dX0_cancelBid_52 rfl rfl ?_
      refine z_getA dX0_cancelBid_53 zc0 (by decide) wf_X0_9 hf fun x15 hf => ?_
      refine z_aload_n 3 dX0_cancelBid_56 rfl rfl ?_
      refine z_getA dX0_cancelBid_57 zc1 (by decide) wf_X0_114 hf fun x16 hf => ?_
      refine z_iload_n 5 dX0_cancelBid_60 rfl rfl ?_
      refine z_cV_i (d' := d - 1) (As := [.int p1]) (rest := [.ref x15]) dX0_cancelBid_61 lk_X0_94 rfl hf (fun w1 e1 => zc_X6_at (by omega) e1) (by omega) rfl rfl (Nat.le_of_ble_eq_true rfl) fun y17 hf => ?_
      refine z_aload_n 4 dX0_cancelBid_64 rfl rfl ?_
      refine z_getA dX0_cancelBid_65 zc0 (by decide) wf_X0_34 hf fun x18 hf => ?_
      refine z_iload_n 6 dX0_cancelBid_68 rfl rfl ?_
      refine z_cV_i (d' := d - 1) (As := [.int p2]) (rest := [.int y17.1, .ref x15]) dX0_cancelBid_69 lk_X0_94 rfl hf (fun w1 e1 => zc_X6_at (by omega) e1) (by omega) rfl rfl (Nat.le_of_ble_eq_true rfl) fun y19 hf => ?_
      refine z_cV_i (d' := d - 1) (As := [.int y17.1, .int y19.1]) (rest := []) dX0_cancelBid_72 lk_X0_98 rfl hf (fun w1 e1 => zc_X2_times (by omega) e1) (by omega) rfl rfl (Nat.le_of_ble_eq_true rfl) fun y20 hf => ?_
      refine z_if_ne 82 dX0_cancelBid_75 (by decide) hf (fun hf => ?_) (fun hf => ?_)
      · refine z_iconst (1 : Int32) dX0_cancelBid_78 (by decide) ?_
        refine z_goto 83 dX0_cancelBid_79 (by decide) ?_
        exact Z.sub [4, 5, 6, 3, 2, 1, 0] rfl (zj_X0_cancelBid_83 hd hf)
      · refine z_iconst (0 : Int32) dX0_cancelBid_82 (by decide) ?_
        exact Z.sub [4, 5, 6, 3, 2, 1, 0] rfl (zj_X0_cancelBid_83 hd hf)

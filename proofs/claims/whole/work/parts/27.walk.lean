set_option maxRecDepth 4000 in
theorem zc_X8_inverse {Γ : zG} {N d : Nat} (hd : 13 ≤ d) {a : Nat} {p1 : Int32} {h : zH} {w : (Int32 ⊕ Nat) × zH} (hf : f_X8_inverse N a p1 h = some w) : Zm Γ m_X8_inverse d [.ref a, .int p1] h (zoTI w) := by
  unfold f_X8_inverse at hf
  refine z_meth rfl (plainFor_of_name wpl_X8) (by simp [lg_sl, Value.category, zml, m_X8_inverse]) ?_
  refine z_aload_n 0 dX8_inverse_0 rfl rfl ?_
  refine z_aload_n 0 dX8_inverse_1 rfl rfl ?_
  refine z_getA dX8_inverse_2 zc8 (by decide) wf_X8_10 hf fun x1 hf => ?_
  refine z_aload_n 0 dX8_inverse_5 rfl rfl ?_
  refine z_iload_n 1 dX8_inverse_6 rfl rfl ?_
  refine z_cV_ti (d' := d - 1) (As := [.int p1]) (rest := [.ref x1, .ref a]) dX8_inverse_7 lk_X8_164 rfl hf (fun w1 e1 => zc_X8_elementOf (by omega) e1) (by omega) rfl rfl (Nat.le_of_ble_eq_true rfl) (fun y2 x3 hf => ?_) (fun y2 k4 hf => ?_)
  · refine z_cV_i (d' := d - 1) (As := [.int x3]) (rest := [.ref a]) dX8_inverse_10 lk_X8_170 rfl hf (fun w1 e1 => zc_X2_opposite (by omega) e1) (by omega) rfl rfl (Nat.le_of_ble_eq_true rfl) fun y5 hf => ?_
    refine z_cV_i (d' := d - 1) (As := [.int y5.1]) (rest := []) dX8_inverse_13 lk_X8_144 rfl hf (fun w1 e1 => zc_X8_numberOf (by omega) e1) (by omega) rfl rfl (Nat.le_of_ble_eq_true rfl) fun y6 hf => ?_
    exact z_iret dX8_inverse_16 rfl (by cases hf; rfl)
  · exact zx_out rfl (by cases hf; rfl)
set_option maxRecDepth 4000 in
theorem zc_L_inverse {Γ : zG} {N d : Nat} (hd : 14 ≤ d) {p1 : Nat} {p2 : Int32} {p3 : Nat} {h : zH} {w : Int32 × zH} (hf : f_L_inverse N p1 p2 p3 h = some w) : Zm Γ m_L_inverse d [.ref p1, .int p2, .ref p3] h (zoI w) := by
  unfold f_L_inverse at hf
  refine z_methH (by decide) (by decide +kernel) (by simp [lg_sl, Value.category, zml, m_L_inverse]) ?_
  refine z_aload_n 2 dL_inverse_0 rfl rfl ?_
  refine z_iconst (0 : Int32) dL_inverse_1 (by decide) ?_
  refine z_aload_n 0 dL_inverse_2 rfl rfl ?_
  refine z_iload_n 1 dL_inverse_3 rfl rfl ?_
  refine z_cV_ti (d' := d - 1) (As := [.int p2]) (rest := [.int (0 : Int32), .ref p3]) dL_inverse_4 lk_L_39 rfl hf (fun w1 e1 => zc_X8_inverse (by omega) e1) (by omega) rfl rfl (Nat.le_of_ble_eq_true rfl) (fun y1 x2 hf => ?_) (fun y1 k3 hf => ?_)
  · refine z_i2l dL_inverse_7 ?_
    refine z_lastore dL_inverse_8 hf fun h4 hf => ?_
    refine z_goto 15 dL_inverse_9 (by decide) ?_
    refine z_iconst (0 : Int32) dL_inverse_15 (by decide) ?_
    exact z_iret dL_inverse_16 rfl (by cases hf; rfl)
  · by_cases e0 : k3 = 1
    · rw [if_pos e0] at hf
      subst e0
      refine zx_catch (by decide) [] (0, 9, 12, 13) [] rfl (fun z hz => absurd hz List.not_mem_nil) (by decide) (by decide) wc_L_13 wct_1 fun q5 => ?_
      refine z_astore_n [(3, .ref q5), (0, .ref p1), (1, .int p2), (2, .ref p3)] dL_inverse_12 rfl (by decide) rfl ?_
      refine z_iconst (1 : Int32) dL_inverse_13 (by decide) ?_
      exact z_iret dL_inverse_14 rfl (by cases hf; rfl)
    · rw [if_neg e0] at hf
      cases hf
set_option maxRecDepth 4000 in
theorem zl_X9_inverseOf_12 {Γ : zG} {N d : Nat} {h0 : zH} (hd : 11 ≤ d) {v0 : Int32} {v1 : Int32} {v3 : Int32} {k1 : Int32 → zH → Option (Int32 × zH)} {w : Int32 × zH}  (hk1 : ∀ (v2 : Int32) (h : zH), k1 v2 h = some w → Z Γ m_X9_inverseOf d h0 (zoI w) 43 [(0, .int v0), (1, .int v1), (2, .int v2), (3, .int v3)] [] h) : ∀ (n : Nat) (v2 : Int32) (v4 : Int32) (h : zH), f_X9_inverseOf_l12 N v0 v1 v3 k1 n v2 v4 h = some w → Z Γ m_X9_inverseOf d h0 (zoI w) 12 [(0, .int v0), (1, .int v1), (2, .int v2), (3, .int v3), (4, .int v4)] [] h := by
  intro n
  induction n with
  | zero => intro v2 v4 h hf; cases hf
  | succ n ih =>
    intro v2 v4 h hf
    rw [f_X9_inverseOf_l12] at hf
    refine z_iload 4 dX9_inverseOf_12 rfl ?_
    refine z_iload_n 1 dX9_inverseOf_14 rfl rfl ?_
    refine z_icmp_gt 43 dX9_inverseOf_15 (by decide) hf (fun hf => ?_) (fun hf => ?_)
    · exact Z.sub [0, 1, 2, 3] rfl (hk1 v2 h hf)
    · refine z_iload_n 0 dX9_inverseOf_18 rfl rfl ?_
      refine z_iload 4 dX9_inverseOf_19 rfl ?_
      refine z_iload_n 1 dX9_inverseOf_21 rfl rfl ?_
      refine z_cS_i (d' := d - 1) (As := [.int v0, .int v4, .int v1]) (rest := []) dX9_inverseOf_22 lk_X9_50 hf (fun w1 e1 => zc_X9_digit (by omega) e1) (by omega) rfl rfl (Nat.le_of_ble_eq_true rfl) fun y1 hf => ?_
      refine z_iload_n 3 dX9_inverseOf_25 rfl rfl ?_
      refine zjn_elim (P := fun (j37 : Int32 → Int32 → zH → Option (Int32 × zH)) => ∀ (v2 : Int32) (v4 : Int32) (h : zH), j37 v2 v4 h = some w → Z Γ m_X9_inverseOf d h0 (zoI w) 37 [(0, .int v0), (1, .int v1), (2, .int v2), (3, .int v3), (4, .int v4)] [] h) hf (fun v2 v4 h hf => ?_) (fun j37 hj37 hf => ?_)
      · refine z_iinc (v4 + (1 : Int32)) 4 [(4, .int (v4 + (1 : Int32))), (0, .int v0), (1, .int v1), (2, .int v2), (3, .int v3)] dX9_inverseOf_37 rfl rfl (by decide) rfl ?_
        refine z_goto 12 dX9_inverseOf_40 (by decide) ?_
        exact Z.sub [1, 2, 3, 4, 0] rfl (ih v2 (v4 + (1 : Int32)) h hf)
      · refine z_icmp_ne 37 dX9_inverseOf_26 (by decide) hf (fun hf => ?_) (fun hf => ?_)
        · refine z_bipush (10 : Int32) dX9_inverseOf_29 (by decide) ?_
          refine z_iload_n 2 dX9_inverseOf_31 rfl rfl ?_
          refine z_imul dX9_inverseOf_32 ?_
          refine z_iload 4 dX9_inverseOf_33 rfl ?_
          refine z_iadd dX9_inverseOf_35 ?_
          refine z_istore_n [(2, .int (((10 : Int32) * v2) + v4)), (0, .int v0), (1, .int v1), (3, .int v3), (4, .int v4)] dX9_inverseOf_36 rfl (by decide) rfl ?_
          exact Z.sub [1, 2, 0, 3, 4] rfl (hj37 (((10 : Int32) * v2) + v4) v4 y1.2 hf)
        · exact Z.sub [0, 1, 2, 3, 4] rfl (hj37 v2 v4 y1.2 hf)
set_option maxRecDepth 4000 in
theorem zl_X9_inverseOf_4 {Γ : zG} {N d : Nat} {h0 : zH} (hd : 11 ≤ d) {v0 : Int32} {v1 : Int32}  {w : Int32 × zH}   : ∀ (n : Nat) (v2 : Int32) (v3 : Int32) (h : zH), f_X9_inverseOf_l4 N v0 v1 n v2 v3 h = some w → Z Γ m_X9_inverseOf d h0 (zoI w) 4 [(0, .int v0), (1, .int v1), (2, .int v2), (3, .int v3)] [] h := by
  intro n
  induction n with
  | zero => intro v2 v3 h hf; cases hf
  | succ n ih =>
    intro v2 v3 h hf
    rw [f_X9_inverseOf_l4] at hf
    refine z_iload_n 3 dX9_inverseOf_4 rfl rfl ?_
    refine z_iload_n 1 dX9_inverseOf_5 rfl rfl ?_
    refine z_icmp_gt 49 dX9_inverseOf_6 (by decide) hf (fun hf => ?_) (fun hf => ?_)
    · refine z_iload_n 2 dX9_inverseOf_49 rfl rfl ?_
      exact z_iret dX9_inverseOf_50 rfl (by cases hf; rfl)
    · refine z_iconst (1 : Int32) dX9_inverseOf_9 (by decide) ?_
      refine z_istore [(4, .int (1 : Int32)), (0, .int v0), (1, .int v1), (2, .int v2), (3, .int v3)] dX9_inverseOf_10 (by decide) rfl ?_
      refine Z.sub [1, 2, 3, 4, 0] rfl (zl_X9_inverseOf_12 hd (fun u2 h3 hf => ?_) N v2 (1 : Int32) h hf)
      · refine z_iinc (v3 + (1 : Int32)) 3 [(3, .int (v3 + (1 : Int32))), (0, .int v0), (1, .int v1), (2, .int u2)] dX9_inverseOf_43 rfl rfl (by decide) rfl ?_
        refine z_goto 4 dX9_inverseOf_46 (by decide) ?_
        exact Z.sub [1, 2, 3, 0] rfl (ih u2 (v3 + (1 : Int32)) h3 hf)
set_option maxRecDepth 4000 in
theorem zc_X9_inverseOf {Γ : zG} {N d : Nat} (hd : 11 ≤ d) {p1 : Int32} {p2 : Int32} {h : zH} {w : Int32 × zH} (hf : f_X9_inverseOf N p1 p2 h = some w) : Zm Γ m_X9_inverseOf d [.int p1, .int p2] h (zoI w) := by
  unfold f_X9_inverseOf at hf
  refine z_meth rfl (plainFor_of_name wpl_X9) (by simp [lg_sl, Value.category, zml, m_X9_inverseOf]) ?_
  refine z_iconst (0 : Int32) dX9_inverseOf_0 (by decide) ?_
  refine z_istore_n [(2, .int (0 : Int32)), (0, .int p1), (1, .int p2)] dX9_inverseOf_1 rfl (by decide) rfl ?_
  refine z_iconst (1 : Int32) dX9_inverseOf_2 (by decide) ?_
  refine z_istore_n [(3, .int (1 : Int32)), (2, .int (0 : Int32)), (0, .int p1), (1, .int p2)] dX9_inverseOf_3 rfl (by decide) rfl ?_
  refine Z.sub [2, 3, 1, 0] rfl (zl_X9_inverseOf_4 hd  N (0 : Int32) (1 : Int32) h hf)
set_option maxRecDepth 4000 in
theorem zc_X9_inverse {Γ : zG} {N d : Nat} (hd : 12 ≤ d) {a : Nat} {p1 : Int32} {h : zH} {w : Int32 × zH} (hf : f_X9_inverse N a p1 h = some w) : Zm Γ m_X9_inverse d [.ref a, .int p1] h (zoI w) := by
  unfold f_X9_inverse at hf
  refine z_meth rfl (plainFor_of_name wpl_X9) (by simp [lg_sl, Value.category, zml, m_X9_inverse]) ?_
  refine z_aload_n 0 dX9_inverse_0 rfl rfl ?_
  refine z_iconst (0 : Int32) dX9_inverse_1 (by decide) ?_
  refine z_putB dX9_inverse_2 zc9 (by decide) wf_X9_46 (Or.inl rfl) rfl rfl hf fun h1 hf => ?_
  refine z_aload_n 0 dX9_inverse_5 rfl rfl ?_
  refine z_iload_n 1 dX9_inverse_6 rfl rfl ?_
  refine z_iconst (1 : Int32) dX9_inverse_7 (by decide) ?_
  refine z_cV_i (d' := d - 1) (As := [.int p1, .int (1 : Int32)]) (rest := []) dX9_inverse_8 lk_X9_266 rfl hf (fun w1 e1 => zc_X9_noElement (by omega) e1) (by omega) rfl rfl (Nat.le_of_ble_eq_true rfl) fun y2 hf => ?_
  refine z_if_eq 18 dX9_inverse_11 (by decide) hf (fun hf => ?_) (fun hf => ?_)
  · refine z_iload_n 1 dX9_inverse_18 rfl rfl ?_
    refine z_aload_n 0 dX9_inverse_19 rfl rfl ?_
    refine z_getA dX9_inverse_20 zc9 (by decide) wf_X9_17 hf fun x3 hf => ?_
    refine z_iconst (0 : Int32) dX9_inverse_23 (by decide) ?_
    refine z_iaload dX9_inverse_24 hf fun x4 hf => ?_
    refine z_cS_i (d' := d - 1) (As := [.int p1, .int x4]) (rest := []) dX9_inverse_25 lk_X9_269 hf (fun w1 e1 => zc_X9_inverseOf (by omega) e1) (by omega) rfl rfl (Nat.le_of_ble_eq_true rfl) fun y5 hf => ?_
    exact z_iret dX9_inverse_28 rfl (by cases hf; rfl)
  · refine z_iconst (0 : Int32) dX9_inverse_14 (by decide) ?_
    refine z_goto 28 dX9_inverse_15 (by decide) ?_
    exact z_iret dX9_inverse_28 rfl (by cases hf; rfl)
set_option maxRecDepth 4000 in
theorem zc_X8_order {Γ : zG} {N d : Nat} (hd : 13 ≤ d) {a : Nat} {p1 : Int32} {h : zH} {w : (Int32 ⊕ Nat) × zH} (hf : f_X8_order N a p1 h = some w) : Zm Γ m_X8_order d [.ref a, .int p1] h (zoTI w) := by
  unfold f_X8_order at hf
  refine z_meth rfl (plainFor_of_name wpl_X8) (by simp [lg_sl, Value.category, zml, m_X8_order]) ?_
  refine z_aload_n 0 dX8_order_0 rfl rfl ?_
  refine z_getA dX8_order_1 zc8 (by decide) wf_X8_10 hf fun x1 hf => ?_
  refine z_aload_n 0 dX8_order_4 rfl rfl ?_
  refine z_iload_n 1 dX8_order_5 rfl rfl ?_
  refine z_cV_ti (d' := d - 1) (As := [.int p1]) (rest := [.ref x1]) dX8_order_6 lk_X8_164 rfl hf (fun w1 e1 => zc_X8_elementOf (by omega) e1) (by omega) rfl rfl (Nat.le_of_ble_eq_true rfl) (fun y2 x3 hf => ?_) (fun y2 k4 hf => ?_)
  · refine z_cV_i (d' := d - 1) (As := [.int x3]) (rest := []) dX8_order_9 lk_X8_173 rfl hf (fun w1 e1 => zc_X2_period (by omega) e1) (by omega) rfl rfl (Nat.le_of_ble_eq_true rfl) fun y5 hf => ?_
    exact z_iret dX8_order_12 rfl (by cases hf; rfl)
  · exact zx_out rfl (by cases hf; rfl)
set_option maxRecDepth 4000 in
theorem zc_L_order {Γ : zG} {N d : Nat} (hd : 14 ≤ d) {p1 : Nat} {p2 : Int32} {p3 : Nat} {h : zH} {w : Int32 × zH} (hf : f_L_order N p1 p2 p3 h = some w) : Zm Γ m_L_order d [.ref p1, .int p2, .ref p3] h (zoI w) := by
  unfold f_L_order at hf
  refine z_methH (by decide) (by decide +kernel) (by simp [lg_sl, Value.category, zml, m_L_order]) ?_
  refine z_aload_n 2 dL_order_0 rfl rfl ?_
  refine z_iconst (0 : Int32) dL_order_1 (by decide) ?_
  refine z_aload_n 0 dL_order_2 rfl rfl ?_
  refine z_iload_n 1 dL_order_3 rfl rfl ?_
  refine z_cV_ti (d' := d - 1) (As := [.int p2]) (rest := [.int (0 : Int32), .ref p3]) dL_order_4 lk_L_42 rfl hf (fun w1 e1 => zc_X8_order (by omega) e1) (by omega) rfl rfl (Nat.le_of_ble_eq_true rfl) (fun y1 x2 hf => ?_) (fun y1 k3 hf => ?_)
  · refine z_i2l dL_order_7 ?_
    refine z_lastore dL_order_8 hf fun h4 hf => ?_
    refine z_goto 15 dL_order_9 (by decide) ?_
    refine z_iconst (0 : Int32) dL_order_15 (by decide) ?_
    exact z_iret dL_order_16 rfl (by cases hf; rfl)
  · by_cases e0 : k3 = 1
    · rw [if_pos e0] at hf
      subst e0
      refine zx_catch (by decide) [] (0, 9, 12, 13) [] rfl (fun z hz => absurd hz List.not_mem_nil) (by decide) (by decide) wc_L_13 wct_1 fun q5 => ?_
      refine z_astore_n [(3, .ref q5), (0, .ref p1), (1, .int p2), (2, .ref p3)] dL_order_12 rfl (by decide) rfl ?_
      refine z_iconst (1 : Int32) dL_order_13 (by decide) ?_
      exact z_iret dL_order_14 rfl (by cases hf; rfl)
    · rw [if_neg e0] at hf
      cases hf
set_option maxRecDepth 4000 in
theorem zc_X9_order {Γ : zG} {N d : Nat} (hd : 13 ≤ d) {a : Nat} {p1 : Int32} {h : zH} {w : Int32 × zH} (hf : f_X9_order N a p1 h = some w) : Zm Γ m_X9_order d [.ref a, .int p1] h (zoI w) := by
  unfold f_X9_order at hf
  refine z_meth rfl (plainFor_of_name wpl_X9) (by simp [lg_sl, Value.category, zml, m_X9_order]) ?_
  refine z_aload_n 0 dX9_order_0 rfl rfl ?_
  refine z_iconst (0 : Int32) dX9_order_1 (by decide) ?_
  refine z_putB dX9_order_2 zc9 (by decide) wf_X9_46 (Or.inl rfl) rfl rfl hf fun h1 hf => ?_
  refine z_aload_n 0 dX9_order_5 rfl rfl ?_
  refine z_iload_n 1 dX9_order_6 rfl rfl ?_
  refine z_iconst (1 : Int32) dX9_order_7 (by decide) ?_
  refine z_cV_i (d' := d - 1) (As := [.int p1, .int (1 : Int32)]) (rest := []) dX9_order_8 lk_X9_266 rfl hf (fun w1 e1 => zc_X9_noElement (by omega) e1) (by omega) rfl rfl (Nat.le_of_ble_eq_true rfl) fun y2 hf => ?_
  refine z_if_eq 18 dX9_order_11 (by decide) hf (fun hf => ?_) (fun hf => ?_)
  · refine z_iload_n 1 dX9_order_18 rfl rfl ?_
    refine z_aload_n 0 dX9_order_19 rfl rfl ?_
    refine z_getA dX9_order_20 zc9 (by decide) wf_X9_17 hf fun x3 hf => ?_
    refine z_iconst (0 : Int32) dX9_order_23 (by decide) ?_
    refine z_iaload dX9_order_24 hf fun x4 hf => ?_
    refine z_cS_i (d' := d - 1) (As := [.int p1, .int x4]) (rest := []) dX9_order_25 lk_X9_224 hf (fun w1 e1 => zc_X9_orderOf (by omega) e1) (by omega) rfl rfl (Nat.le_of_ble_eq_true rfl) fun y5 hf => ?_
    exact z_iret dX9_order_28 rfl (by cases hf; rfl)
  · refine z_iconst (0 : Int32) dX9_order_14 (by decide) ?_
    refine z_goto 28 dX9_order_15 (by decide) ?_
    exact z_iret dX9_order_28 rfl (by cases hf; rfl)
set_option maxRecDepth 4000 in
theorem zl_J7_fill_d0a16_6 {Γ : zG} {N d : Nat} {h0 : zH} (hd : 10 ≤ d) {v0 : Nat} {v1 : Int64} {v4 : Int32}  {w : zH}   : ∀ (n : Nat) (v3 : Int32) (h : zH), f_J7_fill_d0a16_l6 N v0 v1 v4 n v3 h = some w → Z Γ m_J7_fill_d0a16 d h0 (zoV w) 6 [(0, .ref v0), (1, .long v1), (3, .int v3), (4, .int v4)] [] h := by
  intro n
  induction n with
  | zero => intro v3 h hf; cases hf
  | succ n ih =>
    intro v3 h hf
    rw [f_J7_fill_d0a16_l6] at hf
    refine z_iload_n 2 dJ7_fill_d0a16_6 rfl rfl ?_
    refine z_iload 3 dJ7_fill_d0a16_7 rfl ?_
    refine z_icmp_ge 22 dJ7_fill_d0a16_9 (by decide) hf (fun hf => ?_) (fun hf => ?_)
    · exact z_vret dJ7_fill_d0a16_22 rfl (by cases hf; rfl)
    · refine z_aload_n 0 dJ7_fill_d0a16_12 rfl rfl ?_
      refine z_iload_n 2 dJ7_fill_d0a16_13 rfl rfl ?_
      refine z_lload_n 1 dJ7_fill_d0a16_14 rfl rfl ?_
      refine z_lastore dJ7_fill_d0a16_15 hf fun h2 hf => ?_
      refine z_iinc (v3 + (1 : Int32)) 2 [(3, .int (v3 + (1 : Int32))), (0, .ref v0), (1, .long v1), (4, .int v4)] dJ7_fill_d0a16_16 rfl rfl (by decide) rfl ?_
      refine z_goto 6 dJ7_fill_d0a16_19 (by decide) ?_
      exact Z.sub [1, 2, 0, 3] rfl (ih (v3 + (1 : Int32)) h2 hf)
set_option maxRecDepth 4000 in
theorem zc_J7_fill_d0a16 {Γ : zG} {N d : Nat} (hd : 10 ≤ d) {p1 : Nat} {p2 : Int64} {h : zH} {w : zH} (hf : f_J7_fill_d0a16 N p1 p2 h = some w) : Zm Γ m_J7_fill_d0a16 d [.ref p1, .long p2] h (zoV w) := by
  unfold f_J7_fill_d0a16 at hf
  refine z_meth rfl (plainFor_of_name wpl_J7) (by simp [lg_sl, Value.category, zml, m_J7_fill_d0a16]) ?_
  refine z_iconst (0 : Int32) dJ7_fill_d0a16_0 (by decide) ?_
  refine z_istore_n [(3, .int (0 : Int32)), (0, .ref p1), (1, .long p2)] dJ7_fill_d0a16_1 rfl (by decide) rfl ?_
  refine z_aload_n 1 dJ7_fill_d0a16_2 rfl rfl ?_
  refine z_alen dJ7_fill_d0a16_3 hf fun x1 hf => ?_
  refine z_istore [(4, .int x1), (3, .int (0 : Int32)), (0, .ref p1), (1, .long p2)] dJ7_fill_d0a16_4 (by decide) rfl ?_
  refine Z.sub [2, 3, 1, 0] rfl (zl_J7_fill_d0a16_6 hd  N (0 : Int32) h hf)
set_option maxRecDepth 4000 in
theorem zl_X2_count_4 {Γ : zG} {N d : Nat} {h0 : zH} (hd : 10 ≤ d) {v1 : Int32}  {w : Int32 × zH}   : ∀ (n : Nat) (v2 : Int32) (v3 : Int32) (h : zH), f_X2_count_l4 N v1 n v2 v3 h = some w → Z Γ m_X2_count d h0 (zoI w) 4 [(1, .int v1), (2, .int v2), (3, .int v3)] [] h := by
  intro n
  induction n with
  | zero => intro v2 v3 h hf; cases hf
  | succ n ih =>
    intro v2 v3 h hf
    rw [f_X2_count_l4] at hf
    refine z_iload_n 2 dX2_count_4 rfl rfl ?_
    refine z_iload_n 0 dX2_count_5 rfl rfl ?_
    refine z_icmp_gt 24 dX2_count_6 (by decide) hf (fun hf => ?_) (fun hf => ?_)
    · refine z_iload_n 1 dX2_count_24 rfl rfl ?_
      exact z_iret dX2_count_25 rfl (by cases hf; rfl)
    · refine z_iload_n 2 dX2_count_9 rfl rfl ?_
      refine z_iconst (5 : Int32) dX2_count_10 (by decide) ?_
      refine z_icmp_gt 24 dX2_count_11 (by decide) hf (fun hf => ?_) (fun hf => ?_)
      · refine z_iload_n 1 dX2_count_24 rfl rfl ?_
        exact z_iret dX2_count_25 rfl (by cases hf; rfl)
      · refine z_iload_n 1 dX2_count_14 rfl rfl ?_
        refine z_iload_n 2 dX2_count_15 rfl rfl ?_
        refine z_imul dX2_count_16 ?_
        refine z_istore_n [(2, .int (v2 * v3)), (1, .int v1), (3, .int v3)] dX2_count_17 rfl (by decide) rfl ?_
        refine z_iinc (v3 + (1 : Int32)) 2 [(3, .int (v3 + (1 : Int32))), (2, .int (v2 * v3)), (1, .int v1)] dX2_count_18 rfl rfl (by decide) rfl ?_
        refine z_goto 4 dX2_count_21 (by decide) ?_
        exact Z.sub [2, 1, 0] rfl (ih (v2 * v3) (v3 + (1 : Int32)) h hf)
set_option maxRecDepth 4000 in
theorem zc_X2_count {Γ : zG} {N d : Nat} (hd : 10 ≤ d) {a : Nat} {p1 : Int32} {h : zH} {w : Int32 × zH} (hf : f_X2_count N a p1 h = some w) : Zm Γ m_X2_count d [.ref a, .int p1] h (zoI w) := by
  unfold f_X2_count at hf
  refine z_meth rfl (plainFor_of_name wpl_X2) (by simp [lg_sl, Value.category, zml, m_X2_count]) ?_
  refine z_iconst (1 : Int32) dX2_count_0 (by decide) ?_
  refine z_istore_n [(2, .int (1 : Int32)), (0, .ref a), (1, .int p1)] dX2_count_1 rfl (by decide) rfl ?_
  refine z_iconst (2 : Int32) dX2_count_2 (by decide) ?_
  refine z_istore_n [(3, .int (2 : Int32)), (2, .int (1 : Int32)), (0, .ref a), (1, .int p1)] dX2_count_3 rfl (by decide) rfl ?_
  refine Z.sub [3, 1, 0] rfl (zl_X2_count_4 hd  N (1 : Int32) (2 : Int32) h hf)
set_option maxRecDepth 4000 in
theorem zl_X3_takeHand_74 {Γ : zG} {N d : Nat} {h0 : zH} (hd : 12 ≤ d) {v0 : Nat} {v1 : Nat} {v3 : Int32} {v4 : Int32} {v5 : Int32} {k1 : zH → Option (zH)} {w : zH}  (hk1 : ∀ (h : zH), k1 h = some w → Z Γ m_X3_takeHand d h0 (zoV w) 110 [(0, .ref v0), (1, .ref v1), (3, .int v3), (4, .int v4)] [] h) : ∀ (n : Nat) (v6 : Int32) (h : zH), f_X3_takeHand_l74 N v0 v1 v3 v4 v5 k1 n v6 h = some w → Z Γ m_X3_takeHand d h0 (zoV w) 74 [(0, .ref v0), (1, .ref v1), (3, .int v3), (4, .int v4), (5, .int v5), (6, .int v6)] [] h := by
  intro n
  induction n with
  | zero => intro v6 h hf; cases hf
  | succ n ih =>
    intro v6 h hf
    rw [f_X3_takeHand_l74] at hf
    refine z_iload 5 dX3_takeHand_74 rfl ?_
    refine z_iload_n 2 dX3_takeHand_76 rfl rfl ?_
    refine z_icmp_ge 110 dX3_takeHand_77 (by decide) hf (fun hf => ?_) (fun hf => ?_)
    · exact Z.sub [0, 1, 2, 3] rfl (hk1 h hf)
    · refine z_aload_n 0 dX3_takeHand_80 rfl rfl ?_
      refine z_getA dX3_takeHand_81 zc3 (by decide) wf_X3_15 hf fun x15 hf => ?_
      refine z_iload 3 dX3_takeHand_84 rfl ?_
      refine z_bipush (120 : Int32) dX3_takeHand_86 (by decide) ?_
      refine z_imul dX3_takeHand_88 ?_
      refine z_iload 5 dX3_takeHand_89 rfl ?_
      refine z_iadd dX3_takeHand_91 ?_
      refine z_aload_n 0 dX3_takeHand_92 rfl rfl ?_
      refine z_getA dX3_takeHand_93 zc3 (by decide) wf_X3_11 hf fun x16 hf => ?_
      refine z_iload 5 dX3_takeHand_96 rfl ?_
      refine z_iload 4 dX3_takeHand_98 rfl ?_
      refine z_cV_i (d' := d - 1) (As := [.int v6, .int v5]) (rest := [.int ((v4 * (120 : Int32)) + v6), .ref x15]) dX3_takeHand_100 lk_X3_80 rfl hf (fun w1 e1 => zc_X2_times (by omega) e1) (by omega) rfl rfl (Nat.le_of_ble_eq_true rfl) fun y17 hf => ?_
      refine z_iastore dX3_takeHand_103 hf fun h18 hf => ?_
      refine z_iinc (v6 + (1 : Int32)) 5 [(6, .int (v6 + (1 : Int32))), (0, .ref v0), (1, .ref v1), (3, .int v3), (4, .int v4), (5, .int v5)] dX3_takeHand_104 rfl rfl (by decide) rfl ?_
      refine z_goto 74 dX3_takeHand_107 (by decide) ?_
      exact Z.sub [1, 2, 3, 4, 5, 0] rfl (ih (v6 + (1 : Int32)) h18 hf)
set_option maxRecDepth 4000 in
theorem zl_X3_takeHand_51 {Γ : zG} {N d : Nat} {h0 : zH} (hd : 12 ≤ d) {v0 : Nat} {v1 : Nat} {v3 : Int32}  {w : zH}   : ∀ (n : Nat) (v4 : Int32) (h : zH), f_X3_takeHand_l51 N v0 v1 v3 n v4 h = some w → Z Γ m_X3_takeHand d h0 (zoV w) 51 [(0, .ref v0), (1, .ref v1), (3, .int v3), (4, .int v4)] [] h := by
  intro n
  induction n with
  | zero => intro v4 h hf; cases hf
  | succ n ih =>
    intro v4 h hf
    rw [f_X3_takeHand_l51] at hf
    refine z_iload 3 dX3_takeHand_51 rfl ?_
    refine z_aload_n 0 dX3_takeHand_53 rfl rfl ?_
    refine z_getI dX3_takeHand_54 zc3 (by decide) wf_X3_44 hf fun x12 hf => ?_
    refine z_icmp_ge 116 dX3_takeHand_57 (by decide) hf (fun hf => ?_) (fun hf => ?_)
    · exact z_vret dX3_takeHand_116 rfl (by cases hf; rfl)
    · refine z_aload_n 1 dX3_takeHand_60 rfl rfl ?_
      refine z_getA dX3_takeHand_61 zc1 (by decide) wf_X3_56 hf fun x13 hf => ?_
      refine z_iload 3 dX3_takeHand_64 rfl ?_
      refine z_cV_i (d' := d - 1) (As := [.int v4]) (rest := []) dX3_takeHand_66 lk_X3_77 rfl hf (fun w1 e1 => zc_X6_at (by omega) e1) (by omega) rfl rfl (Nat.le_of_ble_eq_true rfl) fun y14 hf => ?_
      refine z_istore [(5, .int y14.1), (0, .ref v0), (1, .ref v1), (3, .int v3), (4, .int v4)] dX3_takeHand_69 (by decide) rfl ?_
      refine z_iconst (0 : Int32) dX3_takeHand_71 (by decide) ?_
      refine z_istore [(6, .int (0 : Int32)), (5, .int y14.1), (0, .ref v0), (1, .ref v1), (3, .int v3), (4, .int v4)] dX3_takeHand_72 (by decide) rfl ?_
      refine Z.sub [2, 3, 4, 5, 1, 0] rfl (zl_X3_takeHand_74 hd (fun h19 hf => ?_) N (0 : Int32) y14.2 hf)
      · refine z_iinc (v4 + (1 : Int32)) 3 [(4, .int (v4 + (1 : Int32))), (0, .ref v0), (1, .ref v1), (3, .int v3)] dX3_takeHand_110 rfl rfl (by decide) rfl ?_
        refine z_goto 51 dX3_takeHand_113 (by decide) ?_
        exact Z.sub [1, 2, 3, 0] rfl (ih (v4 + (1 : Int32)) h19 hf)
set_option maxRecDepth 4000 in
theorem zc_X3_takeHand {Γ : zG} {N d : Nat} (hd : 12 ≤ d) {a : Nat} {p1 : Nat} {p2 : Int32} {h : zH} {w : zH} (hf : f_X3_takeHand N a p1 p2 h = some w) : Zm Γ m_X3_takeHand d [.ref a, .ref p1, .int p2] h (zoV w) := by
  unfold f_X3_takeHand at hf
  refine z_meth rfl (plainFor_of_name wpl_X3) (by simp [lg_sl, Value.category, zml, m_X3_takeHand]) ?_
  refine z_aload_n 0 dX3_takeHand_0 rfl rfl ?_
  refine z_getA dX3_takeHand_1 zc3 (by decide) wf_X3_19 hf fun x1 hf => ?_
  refine z_lconst (0 : Int64) dX3_takeHand_4 (by decide) ?_
  refine z_cS_v (d' := d - 1) (As := [.ref x1, .long (0 : Int64)]) (rest := []) dX3_takeHand_5 lk_X3_50 hf (fun w1 e1 => zc_J7_fill_d0a16 (by omega) e1) (by omega) rfl rfl (Nat.le_of_ble_eq_true rfl) fun y2 hf => ?_
  refine z_aload_n 0 dX3_takeHand_8 rfl rfl ?_
  refine z_aload_n 1 dX3_takeHand_9 rfl rfl ?_
  refine z_getA dX3_takeHand_10 zc1 (by decide) wf_X3_56 hf fun x3 hf => ?_
  refine z_cV_i (d' := d - 1) (As := []) (rest := [.ref a]) dX3_takeHand_13 lk_X3_61 rfl hf (fun w1 e1 => zc_X6_size (by omega) e1) (by omega) rfl rfl (Nat.le_of_ble_eq_true rfl) fun y4 hf => ?_
  refine z_bipush (8 : Int32) dX3_takeHand_16 (by decide) ?_
  refine z_cS_i (d' := d - 1) (As := [.int y4.1, .int (8 : Int32)]) (rest := [.ref a]) dX3_takeHand_18 lk_X3_65 hf (fun w1 e1 => zc_J9_min_7cf53 (by omega) e1) (by omega) rfl rfl (Nat.le_of_ble_eq_true rfl) fun y5 hf => ?_
  refine z_putB dX3_takeHand_21 zc3 (by decide) wf_X3_44 (Or.inl rfl) rfl rfl hf fun h6 hf => ?_
  refine z_aload_n 0 dX3_takeHand_24 rfl rfl ?_
  refine z_iconst (1 : Int32) dX3_takeHand_25 (by decide) ?_
  refine z_aload_n 0 dX3_takeHand_26 rfl rfl ?_
  refine z_getI dX3_takeHand_27 zc3 (by decide) wf_X3_44 hf fun x7 hf => ?_
  refine z_ishl dX3_takeHand_30 ?_
  refine z_putB dX3_takeHand_31 zc3 (by decide) wf_X3_40 (Or.inl rfl) rfl rfl hf fun h8 hf => ?_
  refine z_aload_n 0 dX3_takeHand_34 rfl rfl ?_
  refine z_getA dX3_takeHand_35 zc3 (by decide) wf_X3_11 hf fun x9 hf => ?_
  refine z_iload_n 2 dX3_takeHand_38 rfl rfl ?_
  refine z_cV_i (d' := d - 1) (As := [.int p2]) (rest := []) dX3_takeHand_39 lk_X3_71 rfl hf (fun w1 e1 => zc_X2_count (by omega) e1) (by omega) rfl rfl (Nat.le_of_ble_eq_true rfl) fun y10 hf => ?_
  refine z_bipush (120 : Int32) dX3_takeHand_42 (by decide) ?_
  refine z_cS_i (d' := d - 1) (As := [.int y10.1, .int (120 : Int32)]) (rest := []) dX3_takeHand_44 lk_X3_65 hf (fun w1 e1 => zc_J9_min_7cf53 (by omega) e1) (by omega) rfl rfl (Nat.le_of_ble_eq_true rfl) fun y11 hf => ?_
  refine z_istore_n [(3, .int y11.1), (0, .ref a), (1, .ref p1), (2, .int p2)] dX3_takeHand_47 rfl (by decide) rfl ?_
  refine z_iconst (0 : Int32) dX3_takeHand_48 (by decide) ?_
  refine z_istore [(4, .int (0 : Int32)), (3, .int y11.1), (0, .ref a), (1, .ref p1), (2, .int p2)] dX3_takeHand_49 (by decide) rfl ?_
  refine Z.sub [2, 3, 1, 0] rfl (zl_X3_takeHand_51 hd  N (0 : Int32) y11.2 hf)
set_option maxRecDepth 4000 in
theorem zc_X3_hasRoomFor {Γ : zG} {N d : Nat} (hd : 10 ≤ d) {a : Nat} {p1 : Int32} {p2 : Int32} {h : zH} {w : Int32 × zH} (hf : f_X3_hasRoomFor N a p1 p2 h = some w) : Zm Γ m_X3_hasRoomFor d [.ref a, .int p1, .int p2] h (zoI w) := by
  unfold f_X3_hasRoomFor at hf
  refine z_meth rfl (plainFor_of_name wpl_X3) (by simp [lg_sl, Value.category, zml, m_X3_hasRoomFor]) ?_
  refine z_iload_n 1 dX3_hasRoomFor_0 rfl rfl ?_
  refine z_if_lt 25 dX3_hasRoomFor_1 (by decide) hf (fun hf => ?_) (fun hf => ?_)
  · refine z_iconst (0 : Int32) dX3_hasRoomFor_25 (by decide) ?_
    exact z_zret dX3_hasRoomFor_26 rfl (Or.inl rfl) (by cases hf; rfl)
  · refine z_iload_n 1 dX3_hasRoomFor_4 rfl rfl ?_
    refine z_sipush (256 : Int32) dX3_hasRoomFor_5 (by decide) ?_
    refine z_icmp_gt 25 dX3_hasRoomFor_8 (by decide) hf (fun hf => ?_) (fun hf => ?_)
    · refine z_iconst (0 : Int32) dX3_hasRoomFor_25 (by decide) ?_
      exact z_zret dX3_hasRoomFor_26 rfl (Or.inl rfl) (by cases hf; rfl)
    · refine z_iload_n 2 dX3_hasRoomFor_11 rfl rfl ?_
      refine z_if_lt 25 dX3_hasRoomFor_12 (by decide) hf (fun hf => ?_) (fun hf => ?_)
      · refine z_iconst (0 : Int32) dX3_hasRoomFor_25 (by decide) ?_
        exact z_zret dX3_hasRoomFor_26 rfl (Or.inl rfl) (by cases hf; rfl)
      · refine z_iload_n 2 dX3_hasRoomFor_15 rfl rfl ?_
        refine z_bipush (120 : Int32) dX3_hasRoomFor_16 (by decide) ?_
        refine z_icmp_ge 25 dX3_hasRoomFor_18 (by decide) hf (fun hf => ?_) (fun hf => ?_)
        · refine z_iconst (0 : Int32) dX3_hasRoomFor_25 (by decide) ?_
          exact z_zret dX3_hasRoomFor_26 rfl (Or.inl rfl) (by cases hf; rfl)
        · refine z_iconst (1 : Int32) dX3_hasRoomFor_21 (by decide) ?_
          refine z_goto 26 dX3_hasRoomFor_22 (by decide) ?_
          exact z_zret dX3_hasRoomFor_26 rfl (Or.inr rfl) (by cases hf; rfl)
set_option maxRecDepth 4000 in
theorem zc_X3_include {Γ : zG} {N d : Nat} (hd : 11 ≤ d) {a : Nat} {p1 : Int32} {p2 : Int32} {h : zH} {w : zH} (hf : f_X3_include N a p1 p2 h = some w) : Zm Γ m_X3_include d [.ref a, .int p1, .int p2] h (zoV w) := by
  unfold f_X3_include at hf
  refine z_meth rfl (plainFor_of_name wpl_X3) (by simp [lg_sl, Value.category, zml, m_X3_include]) ?_
  refine z_aload_n 0 dX3_include_0 rfl rfl ?_
  refine z_iload_n 1 dX3_include_1 rfl rfl ?_
  refine z_iload_n 2 dX3_include_2 rfl rfl ?_
  refine z_cV_i (d' := d - 1) (As := [.int p1, .int p2]) (rest := []) dX3_include_3 lk_X3_83 rfl hf (fun w1 e1 => zc_X3_hasRoomFor (by omega) e1) (by omega) rfl rfl (Nat.le_of_ble_eq_true rfl) fun y1 hf => ?_
  refine z_if_eq 31 dX3_include_6 (by decide) hf (fun hf => ?_) (fun hf => ?_)
  · exact z_vret dX3_include_31 rfl (by cases hf; rfl)
  · refine z_aload_n 0 dX3_include_9 rfl rfl ?_
    refine z_getA dX3_include_10 zc3 (by decide) wf_X3_19 hf fun x2 hf => ?_
    refine z_iconst (2 : Int32) dX3_include_13 (by decide) ?_
    refine z_iload_n 1 dX3_include_14 rfl rfl ?_
    refine z_imul dX3_include_15 ?_
    refine z_iload_n 2 dX3_include_16 rfl rfl ?_
    refine z_bipush (64 : Int32) dX3_include_17 (by decide) ?_
    refine z_idiv dX3_include_19 hf fun x3 hf => ?_
    refine z_iadd dX3_include_20 ?_
    refine z_dup2 dX3_include_21 rfl rfl ?_
    refine z_laload dX3_include_22 hf fun x4 hf => ?_
    refine z_lconst (1 : Int64) dX3_include_23 (by decide) ?_
    refine z_iload_n 2 dX3_include_24 rfl rfl ?_
    refine z_bipush (64 : Int32) dX3_include_25 (by decide) ?_
    refine z_irem dX3_include_27 hf fun x5 hf => ?_
    refine z_lshl dX3_include_28 ?_
    refine z_lor dX3_include_29 ?_
    refine z_lastore dX3_include_30 hf fun h6 hf => ?_
    exact z_vret dX3_include_31 rfl (by cases hf; rfl)
set_option maxRecDepth 4000 in
theorem zc_J13_bitCount_95d88 {Γ : zG} {N d : Nat} (hd : 10 ≤ d) {p1 : Int64} {h : zH} {w : Int32 × zH} (hf : f_J13_bitCount_95d88 N p1 h = some w) : Zm Γ m_J13_bitCount_95d88 d [.long p1] h (zoI w) := by
  unfold f_J13_bitCount_95d88 at hf
  refine z_meth rfl (plainFor_of_name wpl_J13) (by simp [lg_sl, Value.category, zml, m_J13_bitCount_95d88]) ?_
  refine z_lload_n 0 dJ13_bitCount_95d88_0 rfl rfl ?_
  refine z_lload_n 0 dJ13_bitCount_95d88_1 rfl rfl ?_
  refine z_iconst (1 : Int32) dJ13_bitCount_95d88_2 (by decide) ?_
  refine z_lushr dJ13_bitCount_95d88_3 ?_
  refine z_ldc2 (6148914691236517205 : Int64) dJ13_bitCount_95d88_4 wk_J13_314 ?_
  refine z_land dJ13_bitCount_95d88_7 ?_
  refine z_lsub dJ13_bitCount_95d88_8 ?_
  refine z_lstore_n [(0, .long (p1 - ((p1.toUInt64 >>> ((1 : Int32).toInt64.toUInt64 &&& Int64.toUInt64 63)).toInt64 &&& (6148914691236517205 : Int64))))] dJ13_bitCount_95d88_9 rfl (by decide) rfl ?_
  refine z_lload_n 0 dJ13_bitCount_95d88_10 rfl rfl ?_
  refine z_ldc2 (3689348814741910323 : Int64) dJ13_bitCount_95d88_11 wk_J13_316 ?_
  refine z_land dJ13_bitCount_95d88_14 ?_
  refine z_lload_n 0 dJ13_bitCount_95d88_15 rfl rfl ?_
  refine z_iconst (2 : Int32) dJ13_bitCount_95d88_16 (by decide) ?_
  refine z_lushr dJ13_bitCount_95d88_17 ?_
  refine z_ldc2 (3689348814741910323 : Int64) dJ13_bitCount_95d88_18 wk_J13_316 ?_
  refine z_land dJ13_bitCount_95d88_21 ?_
  refine z_ladd dJ13_bitCount_95d88_22 ?_
  refine z_lstore_n [(0, .long (((p1 - ((p1.toUInt64 >>> ((1 : Int32).toInt64.toUInt64 &&& Int64.toUInt64 63)).toInt64 &&& (6148914691236517205 : Int64))) &&& (3689348814741910323 : Int64)) + (((p1 - ((p1.toUInt64 >>> ((1 : Int32).toInt64.toUInt64 &&& Int64.toUInt64 63)).toInt64 &&& (6148914691236517205 : Int64))).toUInt64 >>> ((2 : Int32).toInt64.toUInt64 &&& Int64.toUInt64 63)).toInt64 &&& (3689348814741910323 : Int64))))] dJ13_bitCount_95d88_23 rfl (by decide) rfl ?_
  refine z_lload_n 0 dJ13_bitCount_95d88_24 rfl rfl ?_
  refine z_lload_n 0 dJ13_bitCount_95d88_25 rfl rfl ?_
  refine z_iconst (4 : Int32) dJ13_bitCount_95d88_26 (by decide) ?_
  refine z_lushr dJ13_bitCount_95d88_27 ?_
  refine z_ladd dJ13_bitCount_95d88_28 ?_
  refine z_ldc2 (1085102592571150095 : Int64) dJ13_bitCount_95d88_29 wk_J13_318 ?_
  refine z_land dJ13_bitCount_95d88_32 ?_
  refine z_lstore_n [(0, .long (((((p1 - ((p1.toUInt64 >>> ((1 : Int32).toInt64.toUInt64 &&& Int64.toUInt64 63)).toInt64 &&& (6148914691236517205 : Int64))) &&& (3689348814741910323 : Int64)) + (((p1 - ((p1.toUInt64 >>> ((1 : Int32).toInt64.toUInt64 &&& Int64.toUInt64 63)).toInt64 &&& (6148914691236517205 : Int64))).toUInt64 >>> ((2 : Int32).toInt64.toUInt64 &&& Int64.toUInt64 63)).toInt64 &&& (3689348814741910323 : Int64))) + ((((p1 - ((p1.toUInt64 >>> ((1 : Int32).toInt64.toUInt64 &&& Int64.toUInt64 63)).toInt64 &&& (6148914691236517205 : Int64))) &&& (3689348814741910323 : Int64)) + (((p1 - ((p1.toUInt64 >>> ((1 : Int32).toInt64.toUInt64 &&& Int64.toUInt64 63)).toInt64 &&& (6148914691236517205 : Int64))).toUInt64 >>> ((2 : Int32).toInt64.toUInt64 &&& Int64.toUInt64 63)).toInt64 &&& (3689348814741910323 : Int64))).toUInt64 >>> ((4 : Int32).toInt64.toUInt64 &&& Int64.toUInt64 63)).toInt64) &&& (1085102592571150095 : Int64)))] dJ13_bitCount_95d88_33 rfl (by decide) rfl ?_
  refine z_lload_n 0 dJ13_bitCount_95d88_34 rfl rfl ?_
  refine z_lload_n 0 dJ13_bitCount_95d88_35 rfl rfl ?_
  refine z_bipush (8 : Int32) dJ13_bitCount_95d88_36 (by decide) ?_
  refine z_lushr dJ13_bitCount_95d88_38 ?_
  refine z_ladd dJ13_bitCount_95d88_39 ?_
  refine z_lstore_n [(0, .long ((((((p1 - ((p1.toUInt64 >>> ((1 : Int32).toInt64.toUInt64 &&& Int64.toUInt64 63)).toInt64 &&& (6148914691236517205 : Int64))) &&& (3689348814741910323 : Int64)) + (((p1 - ((p1.toUInt64 >>> ((1 : Int32).toInt64.toUInt64 &&& Int64.toUInt64 63)).toInt64 &&& (6148914691236517205 : Int64))).toUInt64 >>> ((2 : Int32).toInt64.toUInt64 &&& Int64.toUInt64 63)).toInt64 &&& (3689348814741910323 : Int64))) + ((((p1 - ((p1.toUInt64 >>> ((1 : Int32).toInt64.toUInt64 &&& Int64.toUInt64 63)).toInt64 &&& (6148914691236517205 : Int64))) &&& (3689348814741910323 : Int64)) + (((p1 - ((p1.toUInt64 >>> ((1 : Int32).toInt64.toUInt64 &&& Int64.toUInt64 63)).toInt64 &&& (6148914691236517205 : Int64))).toUInt64 >>> ((2 : Int32).toInt64.toUInt64 &&& Int64.toUInt64 63)).toInt64 &&& (3689348814741910323 : Int64))).toUInt64 >>> ((4 : Int32).toInt64.toUInt64 &&& Int64.toUInt64 63)).toInt64) &&& (1085102592571150095 : Int64)) + ((((((p1 - ((p1.toUInt64 >>> ((1 : Int32).toInt64.toUInt64 &&& Int64.toUInt64 63)).toInt64 &&& (6148914691236517205 : Int64))) &&& (3689348814741910323 : Int64)) + (((p1 - ((p1.toUInt64 >>> ((1 : Int32).toInt64.toUInt64 &&& Int64.toUInt64 63)).toInt64 &&& (6148914691236517205 : Int64))).toUInt64 >>> ((2 : Int32).toInt64.toUInt64 &&& Int64.toUInt64 63)).toInt64 &&& (3689348814741910323 : Int64))) + ((((p1 - ((p1.toUInt64 >>> ((1 : Int32).toInt64.toUInt64 &&& Int64.toUInt64 63)).toInt64 &&& (6148914691236517205 : Int64))) &&& (3689348814741910323 : Int64)) + (((p1 - ((p1.toUInt64 >>> ((1 : Int32).toInt64.toUInt64 &&& Int64.toUInt64 63)).toInt64 &&& (6148914691236517205 : Int64))).toUInt64 >>> ((2 : Int32).toInt64.toUInt64 &&& Int64.toUInt64 63)).toInt64 &&& (3689348814741910323 : Int64))).toUInt64 >>> ((4 : Int32).toInt64.toUInt64 &&& Int64.toUInt64 63)).toInt64) &&& (1085102592571150095 : Int64)).toUInt64 >>> ((8 : Int32).toInt64.toUInt64 &&& Int64.toUInt64 63)).toInt64))] dJ13_bitCount_95d88_40 rfl (by decide) rfl ?_
  refine z_lload_n 0 dJ13_bitCount_95d88_41 rfl rfl ?_
  refine z_lload_n 0 dJ13_bitCount_95d88_42 rfl rfl ?_
  refine z_bipush (16 : Int32) dJ13_bitCount_95d88_43 (by decide) ?_
  refine z_lushr dJ13_bitCount_95d88_45 ?_
  refine z_ladd dJ13_bitCount_95d88_46 ?_
  refine z_lstore_n [(0, .long (((((((p1 - ((p1.toUInt64 >>> ((1 : Int32).toInt64.toUInt64 &&& Int64.toUInt64 63)).toInt64 &&& (6148914691236517205 : Int64))) &&& (3689348814741910323 : Int64)) + (((p1 - ((p1.toUInt64 >>> ((1 : Int32).toInt64.toUInt64 &&& Int64.toUInt64 63)).toInt64 &&& (6148914691236517205 : Int64))).toUInt64 >>> ((2 : Int32).toInt64.toUInt64 &&& Int64.toUInt64 63)).toInt64 &&& (3689348814741910323 : Int64))) + ((((p1 - ((p1.toUInt64 >>> ((1 : Int32).toInt64.toUInt64 &&& Int64.toUInt64 63)).toInt64 &&& (6148914691236517205 : Int64))) &&& (3689348814741910323 : Int64)) + (((p1 - ((p1.toUInt64 >>> ((1 : Int32).toInt64.toUInt64 &&& Int64.toUInt64 63)).toInt64 &&& (6148914691236517205 : Int64))).toUInt64 >>> ((2 : Int32).toInt64.toUInt64 &&& Int64.toUInt64 63)).toInt64 &&& (3689348814741910323 : Int64))).toUInt64 >>> ((4 : Int32).toInt64.toUInt64 &&& Int64.toUInt64 63)).toInt64) &&& (1085102592571150095 : Int64)) + ((((((p1 - ((p1.toUInt64 >>> ((1 : Int32).toInt64.toUInt64 &&& Int64.toUInt64 63)).toInt64 &&& (6148914691236517205 : Int64))) &&& (3689348814741910323 : Int64)) + (((p1 - ((p1.toUInt64 >>> ((1 : Int32).toInt64.toUInt64 &&& Int64.toUInt64 63)).toInt64 &&& (6148914691236517205 : Int64))).toUInt64 >>> ((2 : Int32).toInt64.toUInt64 &&& Int64.toUInt64 63)).toInt64 &&& (3689348814741910323 : Int64))) + ((((p1 - ((p1.toUInt64 >>> ((1 : Int32).toInt64.toUInt64 &&& Int64.toUInt64 63)).toInt64 &&& (6148914691236517205 : Int64))) &&& (3689348814741910323 : Int64)) + (((p1 - ((p1.toUInt64 >>> ((1 : Int32).toInt64.toUInt64 &&& Int64.toUInt64 63)).toInt64 &&& (6148914691236517205 : Int64))).toUInt64 >>> ((2 : Int32).toInt64.toUInt64 &&& Int64.toUInt64 63)).toInt64 &&& (3689348814741910323 : Int64))).toUInt64 >>> ((4 : Int32).toInt64.toUInt64 &&& Int64.toUInt64 63)).toInt64) &&& (1085102592571150095 : Int64)).toUInt64 >>> ((8 : Int32).toInt64.toUInt64 &&& Int64.toUInt64 63)).toInt64) + (((((((p1 - ((p1.toUInt64 >>> ((1 : Int32).toInt64.toUInt64 &&& Int64.toUInt64 63)).toInt64 &&& (6148914691236517205 : Int64))) &&& (3689348814741910323 : Int64)) + (((p1 - ((p1.toUInt64 >>> ((1 : Int32).toInt64.toUInt64 &&& Int64.toUInt64 63)).toInt64 &&& (6148914691236517205 : Int64))).toUInt64 >>> ((2 : Int32).toInt64.toUInt64 &&& Int64.toUInt64 63)).toInt64 &&& (3689348814741910323 : Int64))) + ((((p1 - ((p1.toUInt64 >>> ((1 : Int32).toInt64.toUInt64 &&& Int64.toUInt64 63)).toInt64 &&& (6148914691236517205 : Int64))) &&& (3689348814741910323 : Int64)) + (((p1 - ((p1.toUInt64 >>> ((1 : Int32).toInt64.toUInt64 &&& Int64.toUInt64 63)).toInt64 &&& (6148914691236517205 : Int64))).toUInt64 >>> ((2 : Int32).toInt64.toUInt64 &&& Int64.toUInt64 63)).toInt64 &&& (3689348814741910323 : Int64))).toUInt64 >>> ((4 : Int32).toInt64.toUInt64 &&& Int64.toUInt64 63)).toInt64) &&& (1085102592571150095 : Int64)) + ((((((p1 - ((p1.toUInt64 >>> ((1 : Int32).toInt64.toUInt64 &&& Int64.toUInt64 63)).toInt64 &&& (6148914691236517205 : Int64))) &&& (3689348814741910323 : Int64)) + (((p1 - ((p1.toUInt64 >>> ((1 : Int32).toInt64.toUInt64 &&& Int64.toUInt64 63)).toInt64 &&& (6148914691236517205 : Int64))).toUInt64 >>> ((2 : Int32).toInt64.toUInt64 &&& Int64.toUInt64 63)).toInt64 &&& (3689348814741910323 : Int64))) + ((((p1 - ((p1.toUInt64 >>> ((1 : Int32).toInt64.toUInt64 &&& Int64.toUInt64 63)).toInt64 &&& (6148914691236517205 : Int64))) &&& (3689348814741910323 : Int64)) + (((p1 - ((p1.toUInt64 >>> ((1 : Int32).toInt64.toUInt64 &&& Int64.toUInt64 63)).toInt64 &&& (6148914691236517205 : Int64))).toUInt64 >>> ((2 : Int32).toInt64.toUInt64 &&& Int64.toUInt64 63)).toInt64 &&& (3689348814741910323 : Int64))).toUInt64 >>> ((4 : Int32).toInt64.toUInt64 &&& Int64.toUInt64 63)).toInt64) &&& (1085102592571150095 : Int64)).toUInt64 >>> ((8 : Int32).toInt64.toUInt64 &&& Int64.toUInt64 63)).toInt64).toUInt64 >>> ((16 : Int32).toInt64.toUInt64 &&& Int64.toUInt64 63)).toInt64))] dJ13_bitCount_95d88_47 rfl (by decide) rfl ?_
  refine z_lload_n 0 dJ13_bitCount_95d88_48 rfl rfl ?_
  refine z_lload_n 0 dJ13_bitCount_95d88_49 rfl rfl ?_
  refine z_bipush (32 : Int32) dJ13_bitCount_95d88_50 (by decide) ?_
  refine z_lushr dJ13_bitCount_95d88_52 ?_
  refine z_ladd dJ13_bitCount_95d88_53 ?_
  refine z_lstore_n [(0, .long ((((((((p1 - ((p1.toUInt64 >>> ((1 : Int32).toInt64.toUInt64 &&& Int64.toUInt64 63)).toInt64 &&& (6148914691236517205 : Int64))) &&& (3689348814741910323 : Int64)) + (((p1 - ((p1.toUInt64 >>> ((1 : Int32).toInt64.toUInt64 &&& Int64.toUInt64 63)).toInt64 &&& (6148914691236517205 : Int64))).toUInt64 >>> ((2 : Int32).toInt64.toUInt64 &&& Int64.toUInt64 63)).toInt64 &&& (3689348814741910323 : Int64))) + ((((p1 - ((p1.toUInt64 >>> ((1 : Int32).toInt64.toUInt64 &&& Int64.toUInt64 63)).toInt64 &&& (6148914691236517205 : Int64))) &&& (3689348814741910323 : Int64)) + (((p1 - ((p1.toUInt64 >>> ((1 : Int32).toInt64.toUInt64 &&& Int64.toUInt64 63)).toInt64 &&& (6148914691236517205 : Int64))).toUInt64 >>> ((2 : Int32).toInt64.toUInt64 &&& Int64.toUInt64 63)).toInt64 &&& (3689348814741910323 : Int64))).toUInt64 >>> ((4 : Int32).toInt64.toUInt64 &&& Int64.toUInt64 63)).toInt64) &&& (1085102592571150095 : Int64)) + ((((((p1 - ((p1.toUInt64 >>> ((1 : Int32).toInt64.toUInt64 &&& Int64.toUInt64 63)).toInt64 &&& (6148914691236517205 : Int64))) &&& (3689348814741910323 : Int64)) + (((p1 - ((p1.toUInt64 >>> ((1 : Int32).toInt64.toUInt64 &&& Int64.toUInt64 63)).toInt64 &&& (6148914691236517205 : Int64))).toUInt64 >>> ((2 : Int32).toInt64.toUInt64 &&& Int64.toUInt64 63)).toInt64 &&& (3689348814741910323 : Int64))) + ((((p1 - ((p1.toUInt64 >>> ((1 : Int32).toInt64.toUInt64 &&& Int64.toUInt64 63)).toInt64 &&& (6148914691236517205 : Int64))) &&& (3689348814741910323 : Int64)) + (((p1 - ((p1.toUInt64 >>> ((1 : Int32).toInt64.toUInt64 &&& Int64.toUInt64 63)).toInt64 &&& (6148914691236517205 : Int64))).toUInt64 >>> ((2 : Int32).toInt64.toUInt64 &&& Int64.toUInt64 63)).toInt64 &&& (3689348814741910323 : Int64))).toUInt64 >>> ((4 : Int32).toInt64.toUInt64 &&& Int64.toUInt64 63)).toInt64) &&& (1085102592571150095 : Int64)).toUInt64 >>> ((8 : Int32).toInt64.toUInt64 &&& Int64.toUInt64 63)).toInt64) + (((((((p1 - ((p1.toUInt64 >>> ((1 : Int32).toInt64.toUInt64 &&& Int64.toUInt64 63)).toInt64 &&& (6148914691236517205 : Int64))) &&& (3689348814741910323 : Int64)) + (((p1 - ((p1.toUInt64 >>> ((1 : Int32).toInt64.toUInt64 &&& Int64.toUInt64 63)).toInt64 &&& (6148914691236517205 : Int64))).toUInt64 >>> ((2 : Int32).toInt64.toUInt64 &&& Int64.toUInt64 63)).toInt64 &&& (3689348814741910323 : Int64))) + ((((p1 - ((p1.toUInt64 >>> ((1 : Int32).toInt64.toUInt64 &&& Int64.toUInt64 63)).toInt64 &&& (6148914691236517205 : Int64))) &&& (3689348814741910323 : Int64)) + (((p1 - ((p1.toUInt64 >>> ((1 : Int32).toInt64.toUInt64 &&& Int64.toUInt64 63)).toInt64 &&& (6148914691236517205 : Int64))).toUInt64 >>> ((2 : Int32).toInt64.toUInt64 &&& Int64.toUInt64 63)).toInt64 &&& (3689348814741910323 : Int64))).toUInt64 >>> ((4 : Int32).toInt64.toUInt64 &&& Int64.toUInt64 63)).toInt64) &&& (1085102592571150095 : Int64)) + ((((((p1 - ((p1.toUInt64 >>> ((1 : Int32).toInt64.toUInt64 &&& Int64.toUInt64 63)).toInt64 &&& (6148914691236517205 : Int64))) &&& (3689348814741910323 : Int64)) + (((p1 - ((p1.toUInt64 >>> ((1 : Int32).toInt64.toUInt64 &&& Int64.toUInt64 63)).toInt64 &&& (6148914691236517205 : Int64))).toUInt64 >>> ((2 : Int32).toInt64.toUInt64 &&& Int64.toUInt64 63)).toInt64 &&& (3689348814741910323 : Int64))) + ((((p1 - ((p1.toUInt64 >>> ((1 : Int32).toInt64.toUInt64 &&& Int64.toUInt64 63)).toInt64 &&& (6148914691236517205 : Int64))) &&& (3689348814741910323 : Int64)) + (((p1 - ((p1.toUInt64 >>> ((1 : Int32).toInt64.toUInt64 &&& Int64.toUInt64 63)).toInt64 &&& (6148914691236517205 : Int64))).toUInt64 >>> ((2 : Int32).toInt64.toUInt64 &&& Int64.toUInt64 63)).toInt64 &&& (3689348814741910323 : Int64))).toUInt64 >>> ((4 : Int32).toInt64.toUInt64 &&& Int64.toUInt64 63)).toInt64) &&& (1085102592571150095 : Int64)).toUInt64 >>> ((8 : Int32).toInt64.toUInt64 &&& Int64.toUInt64 63)).toInt64).toUInt64 >>> ((16 : Int32).toInt64.toUInt64 &&& Int64.toUInt64 63)).toInt64) + ((((((((p1 - ((p1.toUInt64 >>> ((1 : Int32).toInt64.toUInt64 &&& Int64.toUInt64 63)).toInt64 &&& (6148914691236517205 : Int64))) &&& (3689348814741910323 : Int64)) + (((p1 - ((p1.toUInt64 >>> ((1 : Int32).toInt64.toUInt64 &&& Int64.toUInt64 63)).toInt64 &&& (6148914691236517205 : Int64))).toUInt64 >>> ((2 : Int32).toInt64.toUInt64 &&& Int64.toUInt64 63)).toInt64 &&& (3689348814741910323 : Int64))) + ((((p1 - ((p1.toUInt64 >>> ((1 : Int32).toInt64.toUInt64 &&& Int64.toUInt64 63)).toInt64 &&& (6148914691236517205 : Int64))) &&& (3689348814741910323 : Int64)) + (((p1 - ((p1.toUInt64 >>> ((1 : Int32).toInt64.toUInt64 &&& Int64.toUInt64 63)).toInt64 &&& (6148914691236517205 : Int64))).toUInt64 >>> ((2 : Int32).toInt64.toUInt64 &&& Int64.toUInt64 63)).toInt64 &&& (3689348814741910323 : Int64))).toUInt64 >>> ((4 : Int32).toInt64.toUInt64 &&& Int64.toUInt64 63)).toInt64) &&& (1085102592571150095 : Int64)) + ((((((p1 - ((p1.toUInt64 >>> ((1 : Int32).toInt64.toUInt64 &&& Int64.toUInt64 63)).toInt64 &&& (6148914691236517205 : Int64))) &&& (3689348814741910323 : Int64)) + (((p1 - ((p1.toUInt64 >>> ((1 : Int32).toInt64.toUInt64 &&& Int64.toUInt64 63)).toInt64 &&& (6148914691236517205 : Int64))).toUInt64 >>> ((2 : Int32).toInt64.toUInt64 &&& Int64.toUInt64 63)).toInt64 &&& (3689348814741910323 : Int64))) + ((((p1 - ((p1.toUInt64 >>> ((1 : Int32).toInt64.toUInt64 &&& Int64.toUInt64 63)).toInt64 &&& (6148914691236517205 : Int64))) &&& (3689348814741910323 : Int64)) + (((p1 - ((p1.toUInt64 >>> ((1 : Int32).toInt64.toUInt64 &&& Int64.toUInt64 63)).toInt64 &&& (6148914691236517205 : Int64))).toUInt64 >>> ((2 : Int32).toInt64.toUInt64 &&& Int64.toUInt64 63)).toInt64 &&& (3689348814741910323 : Int64))).toUInt64 >>> ((4 : Int32).toInt64.toUInt64 &&& Int64.toUInt64 63)).toInt64) &&& (1085102592571150095 : Int64)).toUInt64 >>> ((8 : Int32).toInt64.toUInt64 &&& Int64.toUInt64 63)).toInt64) + (((((((p1 - ((p1.toUInt64 >>> ((1 : Int32).toInt64.toUInt64 &&& Int64.toUInt64 63)).toInt64 &&& (6148914691236517205 : Int64))) &&& (3689348814741910323 : Int64)) + (((p1 - ((p1.toUInt64 >>> ((1 : Int32).toInt64.toUInt64 &&& Int64.toUInt64 63)).toInt64 &&& (6148914691236517205 : Int64))).toUInt64 >>> ((2 : Int32).toInt64.toUInt64 &&& Int64.toUInt64 63)).toInt64 &&& (3689348814741910323 : Int64))) + ((((p1 - ((p1.toUInt64 >>> ((1 : Int32).toInt64.toUInt64 &&& Int64.toUInt64 63)).toInt64 &&& (6148914691236517205 : Int64))) &&& (3689348814741910323 : Int64)) + (((p1 - ((p1.toUInt64 >>> ((1 : Int32).toInt64.toUInt64 &&& Int64.toUInt64 63)).toInt64 &&& (6148914691236517205 : Int64))).toUInt64 >>> ((2 : Int32).toInt64.toUInt64 &&& Int64.toUInt64 63)).toInt64 &&& (3689348814741910323 : Int64))).toUInt64 >>> ((4 : Int32).toInt64.toUInt64 &&& Int64.toUInt64 63)).toInt64) &&& (1085102592571150095 : Int64)) + ((((((p1 - ((p1.toUInt64 >>> ((1 : Int32).toInt64.toUInt64 &&& Int64.toUInt64 63)).toInt64 &&& (6148914691236517205 : Int64))) &&& (3689348814741910323 : Int64)) + (((p1 - ((p1.toUInt64 >>> ((1 : Int32).toInt64.toUInt64 &&& Int64.toUInt64 63)).toInt64 &&& (6148914691236517205 : Int64))).toUInt64 >>> ((2 : Int32).toInt64.toUInt64 &&& Int64.toUInt64 63)).toInt64 &&& (3689348814741910323 : Int64))) + ((((p1 - ((p1.toUInt64 >>> ((1 : Int32).toInt64.toUInt64 &&& Int64.toUInt64 63)).toInt64 &&& (6148914691236517205 : Int64))) &&& (3689348814741910323 : Int64)) + (((p1 - ((p1.toUInt64 >>> ((1 : Int32).toInt64.toUInt64 &&& Int64.toUInt64 63)).toInt64 &&& (6148914691236517205 : Int64))).toUInt64 >>> ((2 : Int32).toInt64.toUInt64 &&& Int64.toUInt64 63)).toInt64 &&& (3689348814741910323 : Int64))).toUInt64 >>> ((4 : Int32).toInt64.toUInt64 &&& Int64.toUInt64 63)).toInt64) &&& (1085102592571150095 : Int64)).toUInt64 >>> ((8 : Int32).toInt64.toUInt64 &&& Int64.toUInt64 63)).toInt64).toUInt64 >>> ((16 : Int32).toInt64.toUInt64 &&& Int64.toUInt64 63)).toInt64).toUInt64 >>> ((32 : Int32).toInt64.toUInt64 &&& Int64.toUInt64 63)).toInt64))] dJ13_bitCount_95d88_54 rfl (by decide) rfl ?_
  refine z_lload_n 0 dJ13_bitCount_95d88_55 rfl rfl ?_
  refine z_l2i dJ13_bitCount_95d88_56 ?_
  refine z_bipush (127 : Int32) dJ13_bitCount_95d88_57 (by decide) ?_
  refine z_iand dJ13_bitCount_95d88_59 ?_
  exact z_iret dJ13_bitCount_95d88_60 rfl (by cases hf; rfl)
set_option maxRecDepth 4000 in
theorem zc_X3_timesCard {Γ : zG} {N d : Nat} (hd : 10 ≤ d) {a : Nat} {p1 : Int32} {p2 : Int32} {h : zH} {w : Int32 × zH} (hf : f_X3_timesCard N a p1 p2 h = some w) : Zm Γ m_X3_timesCard d [.ref a, .int p1, .int p2] h (zoI w) := by
  unfold f_X3_timesCard at hf
  refine z_meth rfl (plainFor_of_name wpl_X3) (by simp [lg_sl, Value.category, zml, m_X3_timesCard]) ?_
  refine z_iload_n 1 dX3_timesCard_0 rfl rfl ?_
  refine z_if_lt 20 dX3_timesCard_1 (by decide) hf (fun hf => ?_) (fun hf => ?_)
  · refine z_iconst (0 : Int32) dX3_timesCard_20 (by decide) ?_
    exact z_iret dX3_timesCard_21 rfl (by cases hf; rfl)
  · refine z_iload_n 1 dX3_timesCard_4 rfl rfl ?_
    refine z_bipush (120 : Int32) dX3_timesCard_5 (by decide) ?_
    refine z_icmp_ge 20 dX3_timesCard_7 (by decide) hf (fun hf => ?_) (fun hf => ?_)
    · refine z_iconst (0 : Int32) dX3_timesCard_20 (by decide) ?_
      exact z_iret dX3_timesCard_21 rfl (by cases hf; rfl)
    · refine z_iload_n 2 dX3_timesCard_10 rfl rfl ?_
      refine z_if_lt 20 dX3_timesCard_11 (by decide) hf (fun hf => ?_) (fun hf => ?_)
      · refine z_iconst (0 : Int32) dX3_timesCard_20 (by decide) ?_
        exact z_iret dX3_timesCard_21 rfl (by cases hf; rfl)
      · refine z_iload_n 2 dX3_timesCard_14 rfl rfl ?_
        refine z_bipush (8 : Int32) dX3_timesCard_15 (by decide) ?_
        refine z_icmp_lt 22 dX3_timesCard_17 (by decide) hf (fun hf => ?_) (fun hf => ?_)
        · refine z_aload_n 0 dX3_timesCard_22 rfl rfl ?_
          refine z_getA dX3_timesCard_23 zc3 (by decide) wf_X3_15 hf fun x1 hf => ?_
          refine z_iload_n 2 dX3_timesCard_26 rfl rfl ?_
          refine z_bipush (120 : Int32) dX3_timesCard_27 (by decide) ?_
          refine z_imul dX3_timesCard_29 ?_
          refine z_iload_n 1 dX3_timesCard_30 rfl rfl ?_
          refine z_iadd dX3_timesCard_31 ?_
          refine z_iaload dX3_timesCard_32 hf fun x2 hf => ?_
          exact z_iret dX3_timesCard_33 rfl (by cases hf; rfl)
        · refine z_iconst (0 : Int32) dX3_timesCard_20 (by decide) ?_
          exact z_iret dX3_timesCard_21 rfl (by cases hf; rfl)
set_option maxRecDepth 4000 in
theorem zl_X3_extend_43 {Γ : zG} {N d : Nat} {h0 : zH} (hd : 12 ≤ d) {v0 : Nat} {v1 : Int32} {v2 : Int32} {v3 : Int32} {v4 : Int32} {k1 : zH → Option (zH)} {w : zH}  (hk1 : ∀ (h : zH), k1 h = some w → Z Γ m_X3_extend d h0 (zoV w) 101 [(0, .ref v0), (1, .int v1), (2, .int v2), (3, .int v3), (4, .int v4)] [] h) : ∀ (n : Nat) (v5 : Int64) (v7 : Int32) (h : zH), f_X3_extend_l43 N v0 v1 v2 v3 v4 k1 n v5 v7 h = some w → Z Γ m_X3_extend d h0 (zoV w) 43 [(0, .ref v0), (1, .int v1), (2, .int v2), (3, .int v3), (4, .int v4), (5, .long v5), (7, .int v7)] [] h := by
  intro n
  induction n with
  | zero => intro v5 v7 h hf; cases hf
  | succ n ih =>
    intro v5 v7 h hf
    rw [f_X3_extend_l43] at hf
    refine z_iload 6 dX3_extend_43 rfl ?_
    refine z_bipush (64 : Int32) dX3_extend_45 (by decide) ?_
    refine z_icmp_ge 101 dX3_extend_47 (by decide) hf (fun hf => ?_) (fun hf => ?_)
    · exact Z.sub [0, 1, 2, 3, 4] rfl (hk1 h hf)
    · refine z_lload 5 dX3_extend_50 rfl ?_
      refine z_lconst (0 : Int64) dX3_extend_52 (by decide) ?_
      refine z_lcmp dX3_extend_53 ?_
      refine z_if_eq 101 dX3_extend_54 (by decide) hf (fun hf => ?_) (fun hf => ?_)
      · exact Z.sub [0, 1, 2, 3, 4] rfl (hk1 h hf)
      · refine z_lload 5 dX3_extend_57 rfl ?_
        refine z_lload 5 dX3_extend_59 rfl ?_
        refine z_lneg dX3_extend_61 ?_
        refine z_land dX3_extend_62 ?_
        refine z_lstore [(8, .long (v5 &&& (-v5))), (0, .ref v0), (1, .int v1), (2, .int v2), (3, .int v3), (4, .int v4), (5, .long v5), (7, .int v7)] dX3_extend_63 (by decide) rfl ?_
        refine z_lload 6 dX3_extend_65 rfl ?_
        refine z_lload 0 dX3_extend_67 rfl ?_
        refine z_lxor dX3_extend_69 ?_
        refine z_lstore [(5, .long (v5 ^^^ (v5 &&& (-v5)))), (8, .long (v5 &&& (-v5))), (0, .ref v0), (1, .int v1), (2, .int v2), (3, .int v3), (4, .int v4), (7, .int v7)] dX3_extend_70 (by decide) rfl ?_
        refine z_aload_n 2 dX3_extend_72 rfl rfl ?_
        refine z_iload_n 5 dX3_extend_73 rfl rfl ?_
        refine z_aload_n 2 dX3_extend_74 rfl rfl ?_
        refine z_iload 6 dX3_extend_75 rfl ?_
        refine z_bipush (64 : Int32) dX3_extend_77 (by decide) ?_
        refine z_imul dX3_extend_79 ?_
        refine z_lload 1 dX3_extend_80 rfl ?_
        refine z_lconst (1 : Int64) dX3_extend_82 (by decide) ?_
        refine z_lsub dX3_extend_83 ?_
        refine z_cS_i (d' := d - 1) (As := [.long ((v5 &&& (-v5)) - (1 : Int64))]) (rest := [.int (v4 * (64 : Int32)), .ref v0, .int v3, .ref v0]) dX3_extend_84 lk_X3_87 hf (fun w1 e1 => zc_J13_bitCount_95d88 (by omega) e1) (by omega) rfl rfl (Nat.le_of_ble_eq_true rfl) fun y3 hf => ?_
        refine z_iadd dX3_extend_87 ?_
        refine z_iload_n 4 dX3_extend_88 rfl rfl ?_
        refine z_cV_i (d' := d - 1) (As := [.int ((v4 * (64 : Int32)) + y3.1), .int v2]) (rest := [.int v3, .ref v0]) dX3_extend_89 lk_X3_93 rfl hf (fun w1 e1 => zc_X3_timesCard (by omega) e1) (by omega) rfl rfl (Nat.le_of_ble_eq_true rfl) fun y4 hf => ?_
        refine z_cV_v (d' := d - 1) (As := [.int v3, .int y4.1]) (rest := []) dX3_extend_92 lk_X3_36 rfl hf (fun w1 e1 => zc_X3_include (by omega) e1) (by omega) rfl rfl (Nat.le_of_ble_eq_true rfl) fun y5 hf => ?_
        refine z_iinc (v7 + (1 : Int32)) 7 [(7, .int (v7 + (1 : Int32))), (5, .long (v5 ^^^ (v5 &&& (-v5)))), (8, .long (v5 &&& (-v5))), (0, .ref v0), (1, .int v1), (2, .int v2), (3, .int v3), (4, .int v4)] dX3_extend_95 rfl rfl (by decide) rfl ?_
        refine z_goto 43 dX3_extend_98 (by decide) ?_
        exact Z.sub [3, 4, 5, 6, 7, 1, 0] rfl (ih (v5 ^^^ (v5 &&& (-v5))) (v7 + (1 : Int32)) y5 hf)
set_option maxRecDepth 4000 in
theorem zl_X3_extend_21 {Γ : zG} {N d : Nat} {h0 : zH} (hd : 12 ≤ d) {v0 : Nat} {v1 : Int32} {v2 : Int32} {v3 : Int32}  {w : zH}   : ∀ (n : Nat) (v4 : Int32) (h : zH), f_X3_extend_l21 N v0 v1 v2 v3 n v4 h = some w → Z Γ m_X3_extend d h0 (zoV w) 21 [(0, .ref v0), (1, .int v1), (2, .int v2), (3, .int v3), (4, .int v4)] [] h := by
  intro n
  induction n with
  | zero => intro v4 h hf; cases hf
  | succ n ih =>
    intro v4 h hf
    rw [f_X3_extend_l21] at hf
    refine z_iload 4 dX3_extend_21 rfl ?_
    refine z_iconst (2 : Int32) dX3_extend_23 (by decide) ?_
    refine z_icmp_ge 107 dX3_extend_24 (by decide) hf (fun hf => ?_) (fun hf => ?_)
    · exact z_vret dX3_extend_107 rfl (by cases hf; rfl)
    · refine z_aload_n 0 dX3_extend_27 rfl rfl ?_
      refine z_getA dX3_extend_28 zc3 (by decide) wf_X3_19 hf fun x1 hf => ?_
      refine z_iconst (2 : Int32) dX3_extend_31 (by decide) ?_
      refine z_iload_n 1 dX3_extend_32 rfl rfl ?_
      refine z_imul dX3_extend_33 ?_
      refine z_iload 4 dX3_extend_34 rfl ?_
      refine z_iadd dX3_extend_36 ?_
      refine z_laload dX3_extend_37 hf fun x2 hf => ?_
      refine z_lstore [(5, .long x2), (0, .ref v0), (1, .int v1), (2, .int v2), (3, .int v3), (4, .int v4)] dX3_extend_38 (by decide) rfl ?_
      refine z_iconst (0 : Int32) dX3_extend_40 (by decide) ?_
      refine z_istore [(7, .int (0 : Int32)), (5, .long x2), (0, .ref v0), (1, .int v1), (2, .int v2), (3, .int v3), (4, .int v4)] dX3_extend_41 (by decide) rfl ?_
      refine Z.sub [2, 3, 4, 5, 6, 1, 0] rfl (zl_X3_extend_43 hd (fun h6 hf => ?_) N x2 (0 : Int32) h hf)
      · refine z_iinc (v4 + (1 : Int32)) 4 [(4, .int (v4 + (1 : Int32))), (0, .ref v0), (1, .int v1), (2, .int v2), (3, .int v3)] dX3_extend_101 rfl rfl (by decide) rfl ?_
        refine z_goto 21 dX3_extend_104 (by decide) ?_
        exact Z.sub [1, 2, 3, 4, 0] rfl (ih (v4 + (1 : Int32)) h6 hf)
set_option maxRecDepth 4000 in
theorem zc_X3_extend {Γ : zG} {N d : Nat} (hd : 12 ≤ d) {a : Nat} {p1 : Int32} {p2 : Int32} {h : zH} {w : zH} (hf : f_X3_extend N a p1 p2 h = some w) : Zm Γ m_X3_extend d [.ref a, .int p1, .int p2] h (zoV w) := by
  unfold f_X3_extend at hf
  refine z_meth rfl (plainFor_of_name wpl_X3) (by simp [lg_sl, Value.category, zml, m_X3_extend]) ?_
  refine z_iload_n 1 dX3_extend_0 rfl rfl ?_
  refine z_if_lt 11 dX3_extend_1 (by decide) hf (fun hf => ?_) (fun hf => ?_)
  · exact z_vret dX3_extend_11 rfl (by cases hf; rfl)
  · refine z_iload_n 1 dX3_extend_4 rfl rfl ?_
    refine z_sipush (256 : Int32) dX3_extend_5 (by decide) ?_
    refine z_icmp_lt 12 dX3_extend_8 (by decide) hf (fun hf => ?_) (fun hf => ?_)
    · refine z_iload_n 1 dX3_extend_12 rfl rfl ?_
      refine z_iconst (1 : Int32) dX3_extend_13 (by decide) ?_
      refine z_iload_n 2 dX3_extend_14 rfl rfl ?_
      refine z_ishl dX3_extend_15 ?_
      refine z_ior dX3_extend_16 ?_
      refine z_istore_n [(3, .int (p1 ||| ((1 : Int32) <<< (p2 &&& 31)))), (0, .ref a), (1, .int p1), (2, .int p2)] dX3_extend_17 rfl (by decide) rfl ?_
      refine z_iconst (0 : Int32) dX3_extend_18 (by decide) ?_
      refine z_istore [(4, .int (0 : Int32)), (3, .int (p1 ||| ((1 : Int32) <<< (p2 &&& 31)))), (0, .ref a), (1, .int p1), (2, .int p2)] dX3_extend_19 (by decide) rfl ?_
      refine Z.sub [2, 3, 4, 1, 0] rfl (zl_X3_extend_21 hd  N (0 : Int32) h hf)
    · exact z_vret dX3_extend_11 rfl (by cases hf; rfl)
set_option maxRecDepth 4000 in
theorem zl_X3_study_25 {Γ : zG} {N d : Nat} {h0 : zH} (hd : 13 ≤ d) {v0 : Nat} {v3 : Int32} {k1 : zH → Option (zH)} {w : zH}  (hk1 : ∀ (h : zH), k1 h = some w → Z Γ m_X3_study d h0 (zoV w) 56 [(0, .ref v0), (3, .int v3)] [] h) : ∀ (n : Nat) (v4 : Int32) (h : zH), f_X3_study_l25 N v0 v3 k1 n v4 h = some w → Z Γ m_X3_study d h0 (zoV w) 25 [(0, .ref v0), (3, .int v3), (4, .int v4)] [] h := by
  intro n
  induction n with
  | zero => intro v4 h hf; cases hf
  | succ n ih =>
    intro v4 h hf
    rw [f_X3_study_l25] at hf
    refine z_iload 2 dX3_study_25 rfl ?_
    refine z_aload_n 0 dX3_study_27 rfl rfl ?_
    refine z_getI dX3_study_28 zc3 (by decide) wf_X3_44 hf fun x4 hf => ?_
    refine z_icmp_ge 56 dX3_study_31 (by decide) hf (fun hf => ?_) (fun hf => ?_)
    · exact Z.sub [0, 1] rfl (hk1 h hf)
    · refine z_iload_n 1 dX3_study_34 rfl rfl ?_
      refine z_iload 2 dX3_study_35 rfl ?_
      refine z_ishr dX3_study_37 ?_
      refine z_iconst (1 : Int32) dX3_study_38 (by decide) ?_
      refine z_iand dX3_study_39 ?_
      refine zjn_elim (P := fun (j50 : Int32 → zH → Option (zH)) => ∀ (v4 : Int32) (h : zH), j50 v4 h = some w → Z Γ m_X3_study d h0 (zoV w) 50 [(0, .ref v0), (3, .int v3), (4, .int v4)] [] h) hf (fun v4 h hf => ?_) (fun j50 hj50 hf => ?_)
      · refine z_iinc (v4 + (1 : Int32)) 2 [(4, .int (v4 + (1 : Int32))), (0, .ref v0), (3, .int v3)] dX3_study_50 rfl rfl (by decide) rfl ?_
        refine z_goto 25 dX3_study_53 (by decide) ?_
        exact Z.sub [1, 2, 0] rfl (ih (v4 + (1 : Int32)) h hf)
      · refine z_if_ne 50 dX3_study_40 (by decide) hf (fun hf => ?_) (fun hf => ?_)
        · refine z_aload_n 0 dX3_study_43 rfl rfl ?_
          refine z_iload_n 1 dX3_study_44 rfl rfl ?_
          refine z_iload 2 dX3_study_45 rfl ?_
          refine z_cV_v (d' := d - 1) (As := [.int v3, .int v4]) (rest := []) dX3_study_47 lk_X3_47 rfl hf (fun w1 e1 => zc_X3_extend (by omega) e1) (by omega) rfl rfl (Nat.le_of_ble_eq_true rfl) fun y5 hf => ?_
          exact Z.sub [0, 1, 2] rfl (hj50 v4 y5 hf)
        · exact Z.sub [0, 1, 2] rfl (hj50 v4 h hf)
set_option maxRecDepth 4000 in
theorem zl_X3_study_14 {Γ : zG} {N d : Nat} {h0 : zH} (hd : 13 ≤ d) {v0 : Nat}  {w : zH}   : ∀ (n : Nat) (v3 : Int32) (h : zH), f_X3_study_l14 N v0 n v3 h = some w → Z Γ m_X3_study d h0 (zoV w) 14 [(0, .ref v0), (3, .int v3)] [] h := by
  intro n
  induction n with
  | zero => intro v3 h hf; cases hf
  | succ n ih =>
    intro v3 h hf
    rw [f_X3_study_l14] at hf
    refine z_iload_n 1 dX3_study_14 rfl rfl ?_
    refine z_aload_n 0 dX3_study_15 rfl rfl ?_
    refine z_getI dX3_study_16 zc3 (by decide) wf_X3_40 hf fun x3 hf => ?_
    refine z_icmp_ge 62 dX3_study_19 (by decide) hf (fun hf => ?_) (fun hf => ?_)
    · exact z_vret dX3_study_62 rfl (by cases hf; rfl)
    · refine z_iconst (0 : Int32) dX3_study_22 (by decide) ?_
      refine z_istore [(4, .int (0 : Int32)), (0, .ref v0), (3, .int v3)] dX3_study_23 (by decide) rfl ?_
      refine Z.sub [1, 2, 0] rfl (zl_X3_study_25 hd (fun h6 hf => ?_) N (0 : Int32) h hf)
      · refine z_iinc (v3 + (1 : Int32)) 1 [(3, .int (v3 + (1 : Int32))), (0, .ref v0)] dX3_study_56 rfl rfl (by decide) rfl ?_
        refine z_goto 14 dX3_study_59 (by decide) ?_
        exact Z.sub [1, 0] rfl (ih (v3 + (1 : Int32)) h6 hf)
set_option maxRecDepth 4000 in
theorem zc_X3_study {Γ : zG} {N d : Nat} (hd : 13 ≤ d) {a : Nat} {p1 : Nat} {p2 : Int32} {h : zH} {w : zH} (hf : f_X3_study N a p1 p2 h = some w) : Zm Γ m_X3_study d [.ref a, .ref p1, .int p2] h (zoV w) := by
  unfold f_X3_study at hf
  refine z_meth rfl (plainFor_of_name wpl_X3) (by simp [lg_sl, Value.category, zml, m_X3_study]) ?_
  refine z_aload_n 0 dX3_study_0 rfl rfl ?_
  refine z_aload_n 1 dX3_study_1 rfl rfl ?_
  refine z_iload_n 2 dX3_study_2 rfl rfl ?_
  refine z_cV_v (d' := d - 1) (As := [.ref p1, .int p2]) (rest := []) dX3_study_3 lk_X3_32 rfl hf (fun w1 e1 => zc_X3_takeHand (by omega) e1) (by omega) rfl rfl (Nat.le_of_ble_eq_true rfl) fun y1 hf => ?_
  refine z_aload_n 0 dX3_study_6 rfl rfl ?_
  refine z_iconst (0 : Int32) dX3_study_7 (by decide) ?_
  refine z_iconst (0 : Int32) dX3_study_8 (by decide) ?_
  refine z_cV_v (d' := d - 1) (As := [.int (0 : Int32), .int (0 : Int32)]) (rest := []) dX3_study_9 lk_X3_36 rfl hf (fun w1 e1 => zc_X3_include (by omega) e1) (by omega) rfl rfl (Nat.le_of_ble_eq_true rfl) fun y2 hf => ?_
  refine z_iconst (0 : Int32) dX3_study_12 (by decide) ?_
  refine z_istore_n [(3, .int (0 : Int32)), (0, .ref a), (1, .ref p1), (2, .int p2)] dX3_study_13 rfl (by decide) rfl ?_
  refine Z.sub [1, 0] rfl (zl_X3_study_14 hd  N (0 : Int32) y2 hf)

set_option maxRecDepth 4000 in
theorem zc_X8_elementOf {Γ : zG} {N d : Nat} (hd : 12 ≤ d) {a : Nat} {p1 : Int32} {h : zH} {w : (Int32 ⊕ Nat) × zH} (hf : f_X8_elementOf N a p1 h = some w) : Zm Γ m_X8_elementOf d [.ref a, .int p1] h (zoTI w) := by
  unfold f_X8_elementOf at hf
  refine z_meth rfl (plainFor_of_name wpl_X8) (by simp [lg_sl, Value.category, zml, m_X8_elementOf]) ?_
  refine z_aload_n 0 dX8_elementOf_0 rfl rfl ?_
  refine z_getA dX8_elementOf_1 zc8 (by decide) wf_X8_10 hf fun x1 hf => ?_
  refine z_iload_n 1 dX8_elementOf_4 rfl rfl ?_
  refine z_aload_n 0 dX8_elementOf_5 rfl rfl ?_
  refine z_getA dX8_elementOf_6 zc8 (by decide) wf_X8_28 hf fun x2 hf => ?_
  refine z_getI dX8_elementOf_9 zc0 (by decide) wf_X8_86 hf fun x3 hf => ?_
  refine z_cV_i (d' := d - 1) (As := [.int p1, .int x3]) (rest := []) dX8_elementOf_12 lk_X8_260 rfl hf (fun w1 e1 => zc_X2_fromNumber (by omega) e1) (by omega) rfl rfl (Nat.le_of_ble_eq_true rfl) fun y4 hf => ?_
  refine z_istore_n [(2, .int y4.1), (0, .ref a), (1, .int p1)] dX8_elementOf_15 rfl (by decide) rfl ?_
  refine z_iload_n 0 dX8_elementOf_16 rfl rfl ?_
  refine z_iconst (-1 : Int32) dX8_elementOf_17 (by decide) ?_
  refine z_icmp_ne 29 dX8_elementOf_18 (by decide) hf (fun hf => ?_) (fun hf => ?_)
  · exact z_throw 1 (by decide) dX8_elementOf_21 dX8_elementOf_24 dX8_elementOf_25 dX8_elementOf_28 wc_X8_62 wi_x1 wx_X8_64a wx_X8_64b (by omega) rfl (Nat.le_of_ble_eq_true rfl) (by cases hf; rfl)
  · refine z_iload_n 0 dX8_elementOf_29 rfl rfl ?_
    exact z_iret dX8_elementOf_30 rfl (by cases hf; rfl)
set_option maxRecDepth 4000 in
theorem zc_X1_takeCard {Γ : zG} {N d : Nat} (hd : 11 ≤ d) {a : Nat} {p1 : Int32} {p2 : Int32} {h : zH} {w : zH} (hf : f_X1_takeCard N a p1 p2 h = some w) : Zm Γ m_X1_takeCard d [.ref a, .int p1, .int p2] h (zoV w) := by
  unfold f_X1_takeCard at hf
  refine z_meth rfl (plainFor_of_name wpl_X1) (by simp [lg_sl, Value.category, zml, m_X1_takeCard]) ?_
  refine z_aload_n 0 dX1_takeCard_0 rfl rfl ?_
  refine z_getA dX1_takeCard_1 zc1 (by decide) wf_X1_14 hf fun x1 hf => ?_
  refine z_iload_n 1 dX1_takeCard_4 rfl rfl ?_
  refine z_cV_v (d' := d - 1) (As := [.int p1]) (rest := []) dX1_takeCard_5 lk_X1_37 rfl hf (fun w1 e1 => zc_X6_push (by omega) e1) (by omega) rfl rfl (Nat.le_of_ble_eq_true rfl) fun y2 hf => ?_
  refine z_aload_n 0 dX1_takeCard_8 rfl rfl ?_
  refine z_getA dX1_takeCard_9 zc1 (by decide) wf_X1_20 hf fun x3 hf => ?_
  refine z_iload_n 2 dX1_takeCard_12 rfl rfl ?_
  refine z_cV_v (d' := d - 1) (As := [.int p2]) (rest := []) dX1_takeCard_13 lk_X1_37 rfl hf (fun w1 e1 => zc_X6_push (by omega) e1) (by omega) rfl rfl (Nat.le_of_ble_eq_true rfl) fun y4 hf => ?_
  exact z_vret dX1_takeCard_16 rfl (by cases hf; rfl)
set_option maxRecDepth 4000 in
theorem zc_X8_give {Γ : zG} {N d : Nat} (hd : 15 ≤ d) {a : Nat} {p1 : Int32} {p2 : Int32} {p3 : Int32} {h : zH} {w : (Int32 ⊕ Nat) × zH} (hf : f_X8_give N a p1 p2 p3 h = some w) : Zm Γ m_X8_give d [.ref a, .int p1, .int p2, .int p3] h (zoTI w) := by
  unfold f_X8_give at hf
  refine z_meth rfl (plainFor_of_name wpl_X8) (by simp [lg_sl, Value.category, zml, m_X8_give]) ?_
  refine z_aload_n 0 dX8_give_0 rfl rfl ?_
  refine z_iload_n 1 dX8_give_1 rfl rfl ?_
  refine z_cV_ta (d' := d - 1) (As := [.int p1]) (rest := []) dX8_give_2 lk_X8_119 rfl hf (fun w1 e1 => zc_X8_existing (by omega) e1) (by omega) rfl rfl (Nat.le_of_ble_eq_true rfl) (fun y1 x2 hf => ?_) (fun y1 k3 hf => ?_)
  · refine z_astore [(4, .ref x2), (0, .ref a), (1, .int p1), (2, .int p2), (3, .int p3)] dX8_give_5 (by decide) rfl ?_
    refine z_aload_n 1 dX8_give_7 rfl rfl ?_
    refine z_iload_n 3 dX8_give_8 rfl rfl ?_
    refine z_cV_ti (d' := d - 1) (As := [.int p2]) (rest := []) dX8_give_9 lk_X8_164 rfl hf (fun w1 e1 => zc_X8_elementOf (by omega) e1) (by omega) rfl rfl (Nat.le_of_ble_eq_true rfl) (fun y4 x5 hf => ?_) (fun y4 k6 hf => ?_)
    · refine z_istore [(5, .int x5), (4, .ref x2), (0, .ref a), (1, .int p1), (2, .int p2), (3, .int p3)] dX8_give_12 (by decide) rfl ?_
      refine z_iload_n 5 dX8_give_14 rfl rfl ?_
      refine z_iconst (1 : Int32) dX8_give_15 (by decide) ?_
      refine z_icmp_lt 26 dX8_give_16 (by decide) hf (fun hf => ?_) (fun hf => ?_)
      · exact z_throw 1 (by decide) dX8_give_26 dX8_give_29 dX8_give_30 dX8_give_33 wc_X8_62 wi_x1 wx_X8_64a wx_X8_64b (by omega) rfl (Nat.le_of_ble_eq_true rfl) (by cases hf; rfl)
      · refine z_iload_n 5 dX8_give_19 rfl rfl ?_
        refine z_sipush (999 : Int32) dX8_give_20 (by decide) ?_
        refine z_icmp_le 34 dX8_give_23 (by decide) hf (fun hf => ?_) (fun hf => ?_)
        · refine z_aload 1 dX8_give_34 rfl ?_
          refine z_getA dX8_give_36 zc1 (by decide) wf_X8_128 hf fun x7 hf => ?_
          refine z_cV_i (d' := d - 1) (As := []) (rest := []) dX8_give_39 lk_X8_218 rfl hf (fun w1 e1 => zc_X6_isFull (by omega) e1) (by omega) rfl rfl (Nat.le_of_ble_eq_true rfl) fun y8 hf => ?_
          refine z_if_eq 53 dX8_give_42 (by decide) hf (fun hf => ?_) (fun hf => ?_)
          · refine z_aload_n 2 dX8_give_53 rfl rfl ?_
            refine z_getA dX8_give_54 zc8 (by decide) wf_X8_35 hf fun x9 hf => ?_
            refine z_aload_n 2 dX8_give_57 rfl rfl ?_
            refine z_getA dX8_give_58 zc8 (by decide) wf_X8_28 hf fun x10 hf => ?_
            refine z_cV_v (d' := d - 1) (As := [.ref x10]) (rest := []) dX8_give_61 lk_X8_72 rfl hf (fun w1 e1 => zc_X4_remember (by omega) e1) (by omega) rfl rfl (Nat.le_of_ble_eq_true rfl) fun y11 hf => ?_
            refine z_aload 1 dX8_give_64 rfl ?_
            refine z_iload 0 dX8_give_66 rfl ?_
            refine z_iload_n 5 dX8_give_68 rfl rfl ?_
            refine z_cV_v (d' := d - 1) (As := [.int x5, .int p3]) (rest := []) dX8_give_69 lk_X8_221 rfl hf (fun w1 e1 => zc_X1_takeCard (by omega) e1) (by omega) rfl rfl (Nat.le_of_ble_eq_true rfl) fun y12 hf => ?_
            refine z_aload 1 dX8_give_72 rfl ?_
            refine z_getA dX8_give_74 zc1 (by decide) wf_X8_128 hf fun x13 hf => ?_
            refine z_cV_i (d' := d - 1) (As := []) (rest := []) dX8_give_77 lk_X8_93 rfl hf (fun w1 e1 => zc_X6_size (by omega) e1) (by omega) rfl rfl (Nat.le_of_ble_eq_true rfl) fun y14 hf => ?_
            exact z_iret dX8_give_80 rfl (by cases hf; rfl)
          · exact z_throw 0 (by decide) dX8_give_45 dX8_give_48 dX8_give_49 dX8_give_52 wc_X8_212 wi_x0 wx_X8_214a wx_X8_214b (by omega) rfl (Nat.le_of_ble_eq_true rfl) (by cases hf; rfl)
        · exact z_throw 1 (by decide) dX8_give_26 dX8_give_29 dX8_give_30 dX8_give_33 wc_X8_62 wi_x1 wx_X8_64a wx_X8_64b (by omega) rfl (Nat.le_of_ble_eq_true rfl) (by cases hf; rfl)
    · exact zx_out rfl (by cases hf; rfl)
  · exact zx_out rfl (by cases hf; rfl)
set_option maxRecDepth 4000 in
theorem zc_L_give {Γ : zG} {N d : Nat} (hd : 16 ≤ d) {p1 : Nat} {p2 : Int32} {p3 : Int32} {p4 : Int32} {h : zH} {w : Int32 × zH} (hf : f_L_give N p1 p2 p3 p4 h = some w) : Zm Γ m_L_give d [.ref p1, .int p2, .int p3, .int p4] h (zoI w) := by
  unfold f_L_give at hf
  refine z_methH (by decide) (by decide +kernel) (by simp [lg_sl, Value.category, zml, m_L_give]) ?_
  refine z_aload_n 0 dL_give_0 rfl rfl ?_
  refine z_iload_n 1 dL_give_1 rfl rfl ?_
  refine z_iload_n 2 dL_give_2 rfl rfl ?_
  refine z_iload_n 3 dL_give_3 rfl rfl ?_
  refine z_cV_ti (d' := d - 1) (As := [.int p2, .int p3, .int p4]) (rest := []) dL_give_4 lk_L_106 rfl hf (fun w1 e1 => zc_X8_give (by omega) e1) (by omega) rfl rfl (Nat.le_of_ble_eq_true rfl) (fun y1 x2 hf => ?_) (fun y1 k3 hf => ?_)
  · exact z_iret dL_give_7 rfl (by cases hf; rfl)
  · by_cases e0 : k3 = 2
    · rw [if_pos e0] at hf
      subst e0
      refine zx_catch (by decide) [] (0, 7, 8, 50) [(0, 7, 13, 40), (0, 7, 18, 97)] rfl (fun z hz => absurd hz List.not_mem_nil) (by decide) (by decide) wc_L_50 wct_2 fun q4 => ?_
      refine z_astore [(4, .ref q4), (0, .ref p1), (1, .int p2), (2, .int p3), (3, .int p4)] dL_give_8 (by decide) rfl ?_
      refine z_ldc (-2000000097 : Int32) dL_give_10 wk_L_52 ?_
      exact z_iret dL_give_12 rfl (by cases hf; rfl)
    · rw [if_neg e0] at hf
      by_cases e1 : k3 = 1
      · rw [if_pos e1] at hf
        subst e1
        refine zx_catch (by decide) [(0, 7, 8, 50)] (0, 7, 13, 40) [(0, 7, 18, 97)] rfl (List.forall_mem_cons.mpr ⟨⟨by decide, 2, by decide, by decide, wc_L_50⟩, fun z hz => absurd hz List.not_mem_nil⟩) (by decide) (by decide) wc_L_40 wct_1 fun q5 => ?_
        refine z_astore [(4, .ref q5), (0, .ref p1), (1, .int p2), (2, .int p3), (3, .int p4)] dL_give_13 (by decide) rfl ?_
        refine z_ldc (-2000000098 : Int32) dL_give_15 wk_L_42 ?_
        exact z_iret dL_give_17 rfl (by cases hf; rfl)
      · rw [if_neg e1] at hf
        by_cases e2 : k3 = 0
        · rw [if_pos e2] at hf
          subst e2
          refine zx_catch (by decide) [(0, 7, 8, 50), (0, 7, 13, 40)] (0, 7, 18, 97) [] rfl (List.forall_mem_cons.mpr ⟨⟨by decide, 2, by decide, by decide, wc_L_50⟩, List.forall_mem_cons.mpr ⟨⟨by decide, 1, by decide, by decide, wc_L_40⟩, fun z hz => absurd hz List.not_mem_nil⟩⟩) (by decide) (by decide) wc_L_97 wct_0 fun q6 => ?_
          refine z_astore [(4, .ref q6), (0, .ref p1), (1, .int p2), (2, .int p3), (3, .int p4)] dL_give_18 (by decide) rfl ?_
          refine z_ldc (-2000000099 : Int32) dL_give_20 wk_L_99 ?_
          exact z_iret dL_give_22 rfl (by cases hf; rfl)
        · rw [if_neg e2] at hf
          cases hf
set_option maxRecDepth 4000 in
theorem zc_X8_order {Γ : zG} {N d : Nat} (hd : 13 ≤ d) {a : Nat} {p1 : Int32} {h : zH} {w : (Int32 ⊕ Nat) × zH} (hf : f_X8_order N a p1 h = some w) : Zm Γ m_X8_order d [.ref a, .int p1] h (zoTI w) := by
  unfold f_X8_order at hf
  refine z_meth rfl (plainFor_of_name wpl_X8) (by simp [lg_sl, Value.category, zml, m_X8_order]) ?_
  refine z_aload_n 0 dX8_order_0 rfl rfl ?_
  refine z_getA dX8_order_1 zc8 (by decide) wf_X8_10 hf fun x1 hf => ?_
  refine z_aload_n 0 dX8_order_4 rfl rfl ?_
  refine z_iload_n 1 dX8_order_5 rfl rfl ?_
  refine z_cV_ti (d' := d - 1) (As := [.int p1]) (rest := [.ref x1]) dX8_order_6 lk_X8_164 rfl hf (fun w1 e1 => zc_X8_elementOf (by omega) e1) (by omega) rfl rfl (Nat.le_of_ble_eq_true rfl) (fun y2 x3 hf => ?_) (fun y2 k4 hf => ?_)
  · refine z_cV_i (d' := d - 1) (As := [.int x3]) (rest := []) dX8_order_9 lk_X8_173 rfl hf (fun w1 e1 => zc_X2_period (by omega) e1) (by omega) rfl rfl (Nat.le_of_ble_eq_true rfl) fun y5 hf => ?_
    exact z_iret dX8_order_12 rfl (by cases hf; rfl)
  · exact zx_out rfl (by cases hf; rfl)
set_option maxRecDepth 4000 in
theorem zc_L_order {Γ : zG} {N d : Nat} (hd : 14 ≤ d) {p1 : Nat} {p2 : Int32} {h : zH} {w : Int32 × zH} (hf : f_L_order N p1 p2 h = some w) : Zm Γ m_L_order d [.ref p1, .int p2] h (zoI w) := by
  unfold f_L_order at hf
  refine z_methH (by decide) (by decide +kernel) (by simp [lg_sl, Value.category, zml, m_L_order]) ?_
  refine z_aload_n 0 dL_order_0 rfl rfl ?_
  refine z_iload_n 1 dL_order_1 rfl rfl ?_
  refine z_cV_ti (d' := d - 1) (As := [.int p2]) (rest := []) dL_order_2 lk_L_72 rfl hf (fun w1 e1 => zc_X8_order (by omega) e1) (by omega) rfl rfl (Nat.le_of_ble_eq_true rfl) (fun y1 x2 hf => ?_) (fun y1 k3 hf => ?_)
  · exact z_iret dL_order_5 rfl (by cases hf; rfl)
  · by_cases e0 : k3 = 1
    · rw [if_pos e0] at hf
      subst e0
      refine zx_catch (by decide) [] (0, 5, 6, 40) [] rfl (fun z hz => absurd hz List.not_mem_nil) (by decide) (by decide) wc_L_40 wct_1 fun q4 => ?_
      refine z_astore_n [(2, .ref q4), (0, .ref p1), (1, .int p2)] dL_order_6 rfl (by decide) rfl ?_
      refine z_ldc (-2000000098 : Int32) dL_order_7 wk_L_42 ?_
      exact z_iret dL_order_9 rfl (by cases hf; rfl)
    · rw [if_neg e0] at hf
      cases hf
set_option maxRecDepth 4000 in
theorem zc_X11_below {Γ : zG} {N d : Nat} (hd : 10 ≤ d) {a : Nat} {p1 : Int32} {h : zH} {w : Int32 × zH} (hf : f_X11_below N a p1 h = some w) : Zm Γ m_X11_below d [.ref a, .int p1] h (zoI w) := by
  unfold f_X11_below at hf
  refine z_meth rfl (plainFor_of_name wpl_X11) (by simp [lg_sl, Value.category, zml, m_X11_below]) ?_
  refine z_aload_n 0 dX11_below_0 rfl rfl ?_
  refine z_ldc (1103515245 : Int32) dX11_below_1 wk_X11_13 ?_
  refine z_aload_n 0 dX11_below_3 rfl rfl ?_
  refine z_getI dX11_below_4 zc11 (by decide) wf_X11_7 hf fun x1 hf => ?_
  refine z_imul dX11_below_7 ?_
  refine z_sipush (12345 : Int32) dX11_below_8 (by decide) ?_
  refine z_iadd dX11_below_11 ?_
  refine z_putB dX11_below_12 zc11 (by decide) wf_X11_7 (Or.inl rfl) rfl rfl hf fun h2 hf => ?_
  refine z_aload_n 0 dX11_below_15 rfl rfl ?_
  refine z_getI dX11_below_16 zc11 (by decide) wf_X11_7 hf fun x3 hf => ?_
  refine z_bipush (16 : Int32) dX11_below_19 (by decide) ?_
  refine z_iushr dX11_below_21 ?_
  refine z_iload_n 1 dX11_below_22 rfl rfl ?_
  refine z_irem dX11_below_23 hf fun x4 hf => ?_
  exact z_iret dX11_below_24 rfl (by cases hf; rfl)
set_option maxRecDepth 4000 in
theorem zc_X7_hasRoomForFiveWords {Γ : zG} {N d : Nat} (hd : 10 ≤ d) {a : Nat} {h : zH} {w : Int32 × zH} (hf : f_X7_hasRoomForFiveWords N a h = some w) : Zm Γ m_X7_hasRoomForFiveWords d [.ref a] h (zoI w) := by
  unfold f_X7_hasRoomForFiveWords at hf
  refine z_meth rfl (plainFor_of_name wpl_X7) (by simp [lg_sl, Value.category, zml, m_X7_hasRoomForFiveWords]) ?_
  refine z_aload_n 0 dX7_hasRoomForFiveWords_0 rfl rfl ?_
  refine z_getI dX7_hasRoomForFiveWords_1 zc7 (by decide) wf_X7_37 hf fun x1 hf => ?_
  refine z_bipush (20 : Int32) dX7_hasRoomForFiveWords_4 (by decide) ?_
  refine z_iadd dX7_hasRoomForFiveWords_6 ?_
  refine z_sipush (700 : Int32) dX7_hasRoomForFiveWords_7 (by decide) ?_
  refine z_icmp_gt 17 dX7_hasRoomForFiveWords_10 (by decide) hf (fun hf => ?_) (fun hf => ?_)
  · refine z_iconst (0 : Int32) dX7_hasRoomForFiveWords_17 (by decide) ?_
    exact z_zret dX7_hasRoomForFiveWords_18 rfl (Or.inl rfl) (by cases hf; rfl)
  · refine z_iconst (1 : Int32) dX7_hasRoomForFiveWords_13 (by decide) ?_
    refine z_goto 18 dX7_hasRoomForFiveWords_14 (by decide) ?_
    exact z_zret dX7_hasRoomForFiveWords_18 rfl (Or.inr rfl) (by cases hf; rfl)
set_option maxRecDepth 4000 in
theorem zl_X7_addWord_2 {Γ : zG} {N d : Nat} {h0 : zH} (hd : 10 ≤ d) {v0 : Nat} {v1 : Int32}  {w : zH}   : ∀ (n : Nat) (v2 : Int32) (h : zH), f_X7_addWord_l2 N v0 v1 n v2 h = some w → Z Γ m_X7_addWord d h0 (zoV w) 2 [(0, .ref v0), (1, .int v1), (2, .int v2)] [] h := by
  intro n
  induction n with
  | zero => intro v2 h hf; cases hf
  | succ n ih =>
    intro v2 h hf
    rw [f_X7_addWord_l2] at hf
    refine z_iload_n 2 dX7_addWord_2 rfl rfl ?_
    refine z_if_lt 58 dX7_addWord_3 (by decide) hf (fun hf => ?_) (fun hf => ?_)
    · exact z_vret dX7_addWord_58 rfl (by cases hf; rfl)
    · refine z_aload_n 0 dX7_addWord_6 rfl rfl ?_
      refine z_getI dX7_addWord_7 zc7 (by decide) wf_X7_37 hf fun x1 hf => ?_
      refine zjn_elim (P := fun (j52 : Int32 → zH → Option (zH)) => ∀ (v2 : Int32) (h : zH), j52 v2 h = some w → Z Γ m_X7_addWord d h0 (zoV w) 52 [(0, .ref v0), (1, .int v1), (2, .int v2)] [] h) hf (fun v2 h hf => ?_) (fun j52 hj52 hf => ?_)
      · refine z_iinc (v2 + (-1 : Int32)) 2 [(2, .int (v2 + (-1 : Int32))), (0, .ref v0), (1, .int v1)] dX7_addWord_52 rfl rfl (by decide) rfl ?_
        refine z_goto 2 dX7_addWord_55 (by decide) ?_
        exact Z.sub [1, 2, 0] rfl (ih (v2 + (-1 : Int32)) h hf)
      · refine z_if_lt 52 dX7_addWord_10 (by decide) hf (fun hf => ?_) (fun hf => ?_)
        · exact Z.sub [0, 1, 2] rfl (hj52 v2 h hf)
        · refine z_aload_n 0 dX7_addWord_13 rfl rfl ?_
          refine z_getI dX7_addWord_14 zc7 (by decide) wf_X7_37 hf fun x2 hf => ?_
          refine z_sipush (700 : Int32) dX7_addWord_17 (by decide) ?_
          refine z_icmp_ge 52 dX7_addWord_20 (by decide) hf (fun hf => ?_) (fun hf => ?_)
          · exact Z.sub [0, 1, 2] rfl (hj52 v2 h hf)
          · refine z_aload_n 0 dX7_addWord_23 rfl rfl ?_
            refine z_getA dX7_addWord_24 zc7 (by decide) wf_X7_15 hf fun x3 hf => ?_
            refine z_aload_n 0 dX7_addWord_27 rfl rfl ?_
            refine z_getI dX7_addWord_28 zc7 (by decide) wf_X7_37 hf fun x4 hf => ?_
            refine z_iload_n 1 dX7_addWord_31 rfl rfl ?_
            refine z_bipush (8 : Int32) dX7_addWord_32 (by decide) ?_
            refine z_iload_n 2 dX7_addWord_34 rfl rfl ?_
            refine z_imul dX7_addWord_35 ?_
            refine z_iushr dX7_addWord_36 ?_
            refine z_sipush (255 : Int32) dX7_addWord_37 (by decide) ?_
            refine z_iand dX7_addWord_40 ?_
            refine z_iastore dX7_addWord_41 hf fun h5 hf => ?_
            refine z_aload_n 0 dX7_addWord_42 rfl rfl ?_
            refine z_dup dX7_addWord_43 rfl ?_
            refine z_getI dX7_addWord_44 zc7 (by decide) wf_X7_37 hf fun x6 hf => ?_
            refine z_iconst (1 : Int32) dX7_addWord_47 (by decide) ?_
            refine z_iadd dX7_addWord_48 ?_
            refine z_putB dX7_addWord_49 zc7 (by decide) wf_X7_37 (Or.inl rfl) rfl rfl hf fun h7 hf => ?_
            exact Z.sub [0, 1, 2] rfl (hj52 v2 h7 hf)
set_option maxRecDepth 4000 in
theorem zc_X7_addWord {Γ : zG} {N d : Nat} (hd : 10 ≤ d) {a : Nat} {p1 : Int32} {h : zH} {w : zH} (hf : f_X7_addWord N a p1 h = some w) : Zm Γ m_X7_addWord d [.ref a, .int p1] h (zoV w) := by
  unfold f_X7_addWord at hf
  refine z_meth rfl (plainFor_of_name wpl_X7) (by simp [lg_sl, Value.category, zml, m_X7_addWord]) ?_
  refine z_iconst (3 : Int32) dX7_addWord_0 (by decide) ?_
  refine z_istore_n [(2, .int (3 : Int32)), (0, .ref a), (1, .int p1)] dX7_addWord_1 rfl (by decide) rfl ?_
  refine Z.sub [1, 2, 0] rfl (zl_X7_addWord_2 hd  N (3 : Int32) h hf)
set_option maxRecDepth 4000 in
theorem zc_X7_textLength {Γ : zG} {N d : Nat} (hd : 10 ≤ d) {a : Nat} {h : zH} {w : Int32 × zH} (hf : f_X7_textLength N a h = some w) : Zm Γ m_X7_textLength d [.ref a] h (zoI w) := by
  unfold f_X7_textLength at hf
  refine z_meth rfl (plainFor_of_name wpl_X7) (by simp [lg_sl, Value.category, zml, m_X7_textLength]) ?_
  refine z_aload_n 0 dX7_textLength_0 rfl rfl ?_
  refine z_getI dX7_textLength_1 zc7 (by decide) wf_X7_37 hf fun x1 hf => ?_
  exact z_iret dX7_textLength_4 rfl (by cases hf; rfl)
set_option maxRecDepth 4000 in
theorem zc_X8_append {Γ : zG} {N d : Nat} (hd : 11 ≤ d) {a : Nat} {p1 : Int32} {p2 : Int32} {p3 : Int32} {p4 : Int32} {p5 : Int32} {h : zH} {w : Int32 × zH} (hf : f_X8_append N a p1 p2 p3 p4 p5 h = some w) : Zm Γ m_X8_append d [.ref a, .int p1, .int p2, .int p3, .int p4, .int p5] h (zoI w) := by
  unfold f_X8_append at hf
  refine z_meth rfl (plainFor_of_name wpl_X8) (by simp [lg_sl, Value.category, zml, m_X8_append]) ?_
  refine z_aload_n 0 dX8_append_0 rfl rfl ?_
  refine z_getA dX8_append_1 zc8 (by decide) wf_X8_21 hf fun x1 hf => ?_
  refine z_cV_i (d' := d - 1) (As := []) (rest := []) dX8_append_4 lk_X8_50 rfl hf (fun w1 e1 => zc_X7_hasRoomForFiveWords (by omega) e1) (by omega) rfl rfl (Nat.le_of_ble_eq_true rfl) fun y2 hf => ?_
  refine z_if_ne 12 dX8_append_7 (by decide) hf (fun hf => ?_) (fun hf => ?_)
  · refine z_iconst (-1 : Int32) dX8_append_10 (by decide) ?_
    exact z_iret dX8_append_11 rfl (by cases hf; rfl)
  · refine z_aload_n 0 dX8_append_12 rfl rfl ?_
    refine z_getA dX8_append_13 zc8 (by decide) wf_X8_21 hf fun x3 hf => ?_
    refine z_iload_n 1 dX8_append_16 rfl rfl ?_
    refine z_cV_v (d' := d - 1) (As := [.int p1]) (rest := []) dX8_append_17 lk_X8_54 rfl hf (fun w1 e1 => zc_X7_addWord (by omega) e1) (by omega) rfl rfl (Nat.le_of_ble_eq_true rfl) fun y4 hf => ?_
    refine z_aload_n 0 dX8_append_20 rfl rfl ?_
    refine z_getA dX8_append_21 zc8 (by decide) wf_X8_21 hf fun x5 hf => ?_
    refine z_iload_n 2 dX8_append_24 rfl rfl ?_
    refine z_cV_v (d' := d - 1) (As := [.int p2]) (rest := []) dX8_append_25 lk_X8_54 rfl hf (fun w1 e1 => zc_X7_addWord (by omega) e1) (by omega) rfl rfl (Nat.le_of_ble_eq_true rfl) fun y6 hf => ?_
    refine z_aload_n 0 dX8_append_28 rfl rfl ?_
    refine z_getA dX8_append_29 zc8 (by decide) wf_X8_21 hf fun x7 hf => ?_
    refine z_iload_n 3 dX8_append_32 rfl rfl ?_
    refine z_cV_v (d' := d - 1) (As := [.int p3]) (rest := []) dX8_append_33 lk_X8_54 rfl hf (fun w1 e1 => zc_X7_addWord (by omega) e1) (by omega) rfl rfl (Nat.le_of_ble_eq_true rfl) fun y8 hf => ?_
    refine z_aload_n 0 dX8_append_36 rfl rfl ?_
    refine z_getA dX8_append_37 zc8 (by decide) wf_X8_21 hf fun x9 hf => ?_
    refine z_iload 4 dX8_append_40 rfl ?_
    refine z_cV_v (d' := d - 1) (As := [.int p4]) (rest := []) dX8_append_42 lk_X8_54 rfl hf (fun w1 e1 => zc_X7_addWord (by omega) e1) (by omega) rfl rfl (Nat.le_of_ble_eq_true rfl) fun y10 hf => ?_
    refine z_aload_n 0 dX8_append_45 rfl rfl ?_
    refine z_getA dX8_append_46 zc8 (by decide) wf_X8_21 hf fun x11 hf => ?_
    refine z_iload 5 dX8_append_49 rfl ?_
    refine z_cV_v (d' := d - 1) (As := [.int p5]) (rest := []) dX8_append_51 lk_X8_54 rfl hf (fun w1 e1 => zc_X7_addWord (by omega) e1) (by omega) rfl rfl (Nat.le_of_ble_eq_true rfl) fun y12 hf => ?_
    refine z_aload_n 0 dX8_append_54 rfl rfl ?_
    refine z_getA dX8_append_55 zc8 (by decide) wf_X8_21 hf fun x13 hf => ?_
    refine z_cV_i (d' := d - 1) (As := []) (rest := []) dX8_append_58 lk_X8_58 rfl hf (fun w1 e1 => zc_X7_textLength (by omega) e1) (by omega) rfl rfl (Nat.le_of_ble_eq_true rfl) fun y14 hf => ?_
    exact z_iret dX8_append_61 rfl (by cases hf; rfl)
set_option maxRecDepth 4000 in
theorem zl_L_flush_22 {Γ : zG} {N d : Nat} {h0 : zH} (hd : 12 ≤ d) {v1 : Nat}  {w : zH}   : ∀ (n : Nat) (v2 : Int32) (h : zH), f_L_flush_l22 N v1 n v2 h = some w → Z Γ m_L_flush d h0 (zoV w) 22 [(1, .ref v1), (2, .int v2)] [] h := by
  intro n
  induction n with
  | zero => intro v2 h hf; cases hf
  | succ n ih =>
    intro v2 h hf
    rw [f_L_flush_l22] at hf
    refine z_iload_n 1 dL_flush_22 rfl rfl ?_
    refine z_bipush (6 : Int32) dL_flush_23 (by decide) ?_
    refine z_icmp_ge 38 dL_flush_25 (by decide) hf (fun hf => ?_) (fun hf => ?_)
    · exact z_vret dL_flush_38 rfl (by cases hf; rfl)
    · refine z_aload_n 0 dL_flush_28 rfl rfl ?_
      refine z_iload_n 1 dL_flush_29 rfl rfl ?_
      refine z_iconst (0 : Int32) dL_flush_30 (by decide) ?_
      refine z_iastore dL_flush_31 hf fun h7 hf => ?_
      refine z_iinc (v2 + (1 : Int32)) 1 [(2, .int (v2 + (1 : Int32))), (1, .ref v1)] dL_flush_32 rfl rfl (by decide) rfl ?_
      refine z_goto 22 dL_flush_35 (by decide) ?_
      exact Z.sub [1, 0] rfl (ih (v2 + (1 : Int32)) h7 hf)
set_option maxRecDepth 4000 in
theorem zc_L_flush {Γ : zG} {N d : Nat} (hd : 12 ≤ d) {p1 : Nat} {p2 : Nat} {h : zH} {w : zH} (hf : f_L_flush N p1 p2 h = some w) : Zm Γ m_L_flush d [.ref p1, .ref p2] h (zoV w) := by
  unfold f_L_flush at hf
  refine z_meth rfl (plainFor_of_name wpl_L) (by simp [lg_sl, Value.category, zml, m_L_flush]) ?_
  refine z_aload_n 0 dL_flush_0 rfl rfl ?_
  refine z_aload_n 1 dL_flush_1 rfl rfl ?_
  refine z_iconst (1 : Int32) dL_flush_2 (by decide) ?_
  refine z_iaload dL_flush_3 hf fun x1 hf => ?_
  refine z_aload_n 1 dL_flush_4 rfl rfl ?_
  refine z_iconst (2 : Int32) dL_flush_5 (by decide) ?_
  refine z_iaload dL_flush_6 hf fun x2 hf => ?_
  refine z_aload_n 1 dL_flush_7 rfl rfl ?_
  refine z_iconst (3 : Int32) dL_flush_8 (by decide) ?_
  refine z_iaload dL_flush_9 hf fun x3 hf => ?_
  refine z_aload_n 1 dL_flush_10 rfl rfl ?_
  refine z_iconst (4 : Int32) dL_flush_11 (by decide) ?_
  refine z_iaload dL_flush_12 hf fun x4 hf => ?_
  refine z_aload_n 1 dL_flush_13 rfl rfl ?_
  refine z_iconst (5 : Int32) dL_flush_14 (by decide) ?_
  refine z_iaload dL_flush_15 hf fun x5 hf => ?_
  refine z_cV_i (d' := d - 1) (As := [.int x1, .int x2, .int x3, .int x4, .int x5]) (rest := []) dL_flush_16 lk_L_13 rfl hf (fun w1 e1 => zc_X8_append (by omega) e1) (by omega) rfl rfl (Nat.le_of_ble_eq_true rfl) fun y6 hf => ?_
  refine z_pop dL_flush_19 rfl ?_
  refine z_iconst (1 : Int32) dL_flush_20 (by decide) ?_
  refine z_istore_n [(2, .int (1 : Int32)), (0, .ref p1), (1, .ref p2)] dL_flush_21 rfl (by decide) rfl ?_
  refine Z.sub [2, 0] rfl (zl_L_flush_22 hd  N (1 : Int32) y6.2 hf)
set_option maxRecDepth 4000 in
theorem zc_L_put {Γ : zG} {N d : Nat} (hd : 13 ≤ d) {p1 : Nat} {p2 : Nat} {p3 : Int32} {h : zH} {w : zH} (hf : f_L_put N p1 p2 p3 h = some w) : Zm Γ m_L_put d [.ref p1, .ref p2, .int p3] h (zoV w) := by
  unfold f_L_put at hf
  refine z_meth rfl (plainFor_of_name wpl_L) (by simp [lg_sl, Value.category, zml, m_L_put]) ?_
  refine z_aload_n 1 dL_put_0 rfl rfl ?_
  refine z_iconst (1 : Int32) dL_put_1 (by decide) ?_
  refine z_aload_n 1 dL_put_2 rfl rfl ?_
  refine z_iconst (0 : Int32) dL_put_3 (by decide) ?_
  refine z_iaload dL_put_4 hf fun x1 hf => ?_
  refine z_bipush (20 : Int32) dL_put_5 (by decide) ?_
  refine z_irem dL_put_7 hf fun x2 hf => ?_
  refine z_iconst (4 : Int32) dL_put_8 (by decide) ?_
  refine z_idiv dL_put_9 hf fun x3 hf => ?_
  refine z_iadd dL_put_10 ?_
  refine z_dup2 dL_put_11 rfl rfl ?_
  refine z_iaload dL_put_12 hf fun x4 hf => ?_
  refine z_iload_n 2 dL_put_13 rfl rfl ?_
  refine z_bipush (24 : Int32) dL_put_14 (by decide) ?_
  refine z_bipush (8 : Int32) dL_put_16 (by decide) ?_
  refine z_aload_n 1 dL_put_18 rfl rfl ?_
  refine z_iconst (0 : Int32) dL_put_19 (by decide) ?_
  refine z_iaload dL_put_20 hf fun x5 hf => ?_
  refine z_iconst (4 : Int32) dL_put_21 (by decide) ?_
  refine z_irem dL_put_22 hf fun x6 hf => ?_
  refine z_imul dL_put_23 ?_
  refine z_isub dL_put_24 ?_
  refine z_ishl dL_put_25 ?_
  refine z_ior dL_put_26 ?_
  refine z_iastore dL_put_27 hf fun h7 hf => ?_
  refine z_aload_n 1 dL_put_28 rfl rfl ?_
  refine z_iconst (0 : Int32) dL_put_29 (by decide) ?_
  refine z_dup2 dL_put_30 rfl rfl ?_
  refine z_iaload dL_put_31 hf fun x8 hf => ?_
  refine z_iconst (1 : Int32) dL_put_32 (by decide) ?_
  refine z_iadd dL_put_33 ?_
  refine z_iastore dL_put_34 hf fun h9 hf => ?_
  refine z_aload_n 1 dL_put_35 rfl rfl ?_
  refine z_iconst (0 : Int32) dL_put_36 (by decide) ?_
  refine z_iaload dL_put_37 hf fun x10 hf => ?_
  refine z_bipush (20 : Int32) dL_put_38 (by decide) ?_
  refine z_irem dL_put_40 hf fun x11 hf => ?_
  refine z_if_ne 49 dL_put_41 (by decide) hf (fun hf => ?_) (fun hf => ?_)
  · refine z_aload_n 0 dL_put_44 rfl rfl ?_
    refine z_aload_n 1 dL_put_45 rfl rfl ?_
    refine z_cS_v (d' := d - 1) (As := [.ref p1, .ref p2]) (rest := []) dL_put_46 lk_L_7 hf (fun w1 e1 => zc_L_flush (by omega) e1) (by omega) rfl rfl (Nat.le_of_ble_eq_true rfl) fun y12 hf => ?_
    exact z_vret dL_put_49 rfl (by cases hf; rfl)
  · exact z_vret dL_put_49 rfl (by cases hf; rfl)
set_option maxRecDepth 4000 in
theorem zl_L_write_2 {Γ : zG} {N d : Nat} {h0 : zH} (hd : 25 ≤ d) {v0 : Nat} {v1 : Nat} {v2 : Nat}  {w : zH}   : ∀ (n : Nat) (v3 : Int32) (h : zH), f_L_write_l2 N v0 v1 v2 n v3 h = some w → Z Γ m_L_write d h0 (zoV w) 2 [(0, .ref v0), (1, .ref v1), (2, .ref v2), (3, .int v3)] [] h := by
  intro n
  induction n with
  | zero => intro v3 h hf; cases hf
  | succ n ih =>
    intro v3 h hf
    rw [f_L_write_l2] at hf
    refine z_iload_n 3 dL_write_2 rfl rfl ?_
    refine z_aload_n 2 dL_write_3 rfl rfl ?_
    refine z_lnA dL_write_4 lk_L_23 (by omega) (Nat.le_of_ble_eq_true rfl) hf fun x1 hf => ?_
    refine z_icmp_ge 26 dL_write_7 (by decide) hf (fun hf => ?_) (fun hf => ?_)
    · exact z_vret dL_write_26 rfl (by cases hf; rfl)
    · refine z_aload_n 0 dL_write_10 rfl rfl ?_
      refine z_aload_n 1 dL_write_11 rfl rfl ?_
      refine z_aload_n 2 dL_write_12 rfl rfl ?_
      refine z_iload_n 3 dL_write_13 rfl rfl ?_
      refine z_chA dL_write_14 lk_L_29 (by omega) (Nat.le_of_ble_eq_true rfl) hf fun x2 hf => ?_
      refine z_cS_v (d' := d - 1) (As := [.ref v0, .ref v1, .int x2]) (rest := []) dL_write_17 lk_L_33 hf (fun w1 e1 => zc_L_put (by omega) e1) (by omega) rfl rfl (Nat.le_of_ble_eq_true rfl) fun y3 hf => ?_
      refine z_iinc (v3 + (1 : Int32)) 3 [(3, .int (v3 + (1 : Int32))), (0, .ref v0), (1, .ref v1), (2, .ref v2)] dL_write_20 rfl rfl (by decide) rfl ?_
      refine z_goto 2 dL_write_23 (by decide) ?_
      exact Z.sub [1, 2, 3, 0] rfl (ih (v3 + (1 : Int32)) y3 hf)
set_option maxRecDepth 4000 in
theorem zc_L_write {Γ : zG} {N d : Nat} (hd : 25 ≤ d) {p1 : Nat} {p2 : Nat} {p3 : Nat} {h : zH} {w : zH} (hf : f_L_write N p1 p2 p3 h = some w) : Zm Γ m_L_write d [.ref p1, .ref p2, .ref p3] h (zoV w) := by
  unfold f_L_write at hf
  refine z_meth rfl (plainFor_of_name wpl_L) (by simp [lg_sl, Value.category, zml, m_L_write]) ?_
  refine z_iconst (0 : Int32) dL_write_0 (by decide) ?_
  refine z_istore_n [(3, .int (0 : Int32)), (0, .ref p1), (1, .ref p2), (2, .ref p3)] dL_write_1 rfl (by decide) rfl ?_
  refine Z.sub [1, 2, 3, 0] rfl (zl_L_write_2 hd  N (0 : Int32) h hf)
set_option maxRecDepth 4000 in
theorem zl_L_writeNumber_2 {Γ : zG} {N d : Nat} {h0 : zH} (hd : 14 ≤ d) {v0 : Nat} {v1 : Nat} {v2 : Int32} {k1 : Int32 → zH → Option (zH)} {w : zH}  (hk1 : ∀ (v3 : Int32) (h : zH), k1 v3 h = some w → Z Γ m_L_writeNumber d h0 (zoV w) 18 [(0, .ref v0), (1, .ref v1), (2, .int v2), (3, .int v3)] [] h) : ∀ (n : Nat) (v3 : Int32) (h : zH), f_L_writeNumber_l2 N v0 v1 v2 k1 n v3 h = some w → Z Γ m_L_writeNumber d h0 (zoV w) 2 [(0, .ref v0), (1, .ref v1), (2, .int v2), (3, .int v3)] [] h := by
  intro n
  induction n with
  | zero => intro v3 h hf; cases hf
  | succ n ih =>
    intro v3 h hf
    rw [f_L_writeNumber_l2] at hf
    refine z_iload_n 3 dL_writeNumber_2 rfl rfl ?_
    refine z_iload_n 2 dL_writeNumber_3 rfl rfl ?_
    refine z_bipush (10 : Int32) dL_writeNumber_4 (by decide) ?_
    refine z_idiv dL_writeNumber_6 hf fun x1 hf => ?_
    refine z_icmp_gt 18 dL_writeNumber_7 (by decide) hf (fun hf => ?_) (fun hf => ?_)
    · exact Z.sub [0, 1, 2, 3] rfl (hk1 v3 h hf)
    · refine z_iload_n 3 dL_writeNumber_10 rfl rfl ?_
      refine z_bipush (10 : Int32) dL_writeNumber_11 (by decide) ?_
      refine z_imul dL_writeNumber_13 ?_
      refine z_istore_n [(3, .int (v3 * (10 : Int32))), (0, .ref v0), (1, .ref v1), (2, .int v2)] dL_writeNumber_14 rfl (by decide) rfl ?_
      refine z_goto 2 dL_writeNumber_15 (by decide) ?_
      exact Z.sub [1, 2, 3, 0] rfl (ih (v3 * (10 : Int32)) h hf)
set_option maxRecDepth 4000 in
theorem zl_L_writeNumber_18 {Γ : zG} {N d : Nat} {h0 : zH} (hd : 14 ≤ d) {v0 : Nat} {v1 : Nat} {v2 : Int32}  {w : zH}   : ∀ (n : Nat) (v3 : Int32) (h : zH), f_L_writeNumber_l18 N v0 v1 v2 n v3 h = some w → Z Γ m_L_writeNumber d h0 (zoV w) 18 [(0, .ref v0), (1, .ref v1), (2, .int v2), (3, .int v3)] [] h := by
  intro n
  induction n with
  | zero => intro v3 h hf; cases hf
  | succ n ih =>
    intro v3 h hf
    rw [f_L_writeNumber_l18] at hf
    refine z_iload_n 3 dL_writeNumber_18 rfl rfl ?_
    refine z_if_le 44 dL_writeNumber_19 (by decide) hf (fun hf => ?_) (fun hf => ?_)
    · exact z_vret dL_writeNumber_44 rfl (by cases hf; rfl)
    · refine z_aload_n 0 dL_writeNumber_22 rfl rfl ?_
      refine z_aload_n 1 dL_writeNumber_23 rfl rfl ?_
      refine z_bipush (48 : Int32) dL_writeNumber_24 (by decide) ?_
      refine z_iload_n 2 dL_writeNumber_26 rfl rfl ?_
      refine z_iload_n 3 dL_writeNumber_27 rfl rfl ?_
      refine z_idiv dL_writeNumber_28 hf fun x4 hf => ?_
      refine z_bipush (10 : Int32) dL_writeNumber_29 (by decide) ?_
      refine z_irem dL_writeNumber_31 hf fun x5 hf => ?_
      refine z_iadd dL_writeNumber_32 ?_
      refine z_cS_v (d' := d - 1) (As := [.ref v0, .ref v1, .int ((48 : Int32) + x5)]) (rest := []) dL_writeNumber_33 lk_L_33 hf (fun w1 e1 => zc_L_put (by omega) e1) (by omega) rfl rfl (Nat.le_of_ble_eq_true rfl) fun y6 hf => ?_
      refine z_iload_n 3 dL_writeNumber_36 rfl rfl ?_
      refine z_bipush (10 : Int32) dL_writeNumber_37 (by decide) ?_
      refine z_idiv dL_writeNumber_39 hf fun x7 hf => ?_
      refine z_istore_n [(3, .int x7), (0, .ref v0), (1, .ref v1), (2, .int v2)] dL_writeNumber_40 rfl (by decide) rfl ?_
      refine z_goto 18 dL_writeNumber_41 (by decide) ?_
      exact Z.sub [1, 2, 3, 0] rfl (ih x7 y6 hf)
set_option maxRecDepth 4000 in
theorem zc_L_writeNumber {Γ : zG} {N d : Nat} (hd : 14 ≤ d) {p1 : Nat} {p2 : Nat} {p3 : Int32} {h : zH} {w : zH} (hf : f_L_writeNumber N p1 p2 p3 h = some w) : Zm Γ m_L_writeNumber d [.ref p1, .ref p2, .int p3] h (zoV w) := by
  unfold f_L_writeNumber at hf
  refine z_meth rfl (plainFor_of_name wpl_L) (by simp [lg_sl, Value.category, zml, m_L_writeNumber]) ?_
  refine z_iconst (1 : Int32) dL_writeNumber_0 (by decide) ?_
  refine z_istore_n [(3, .int (1 : Int32)), (0, .ref p1), (1, .ref p2), (2, .int p3)] dL_writeNumber_1 rfl (by decide) rfl ?_
  refine Z.sub [1, 2, 3, 0] rfl (zl_L_writeNumber_2 hd (fun u2 h3 hf => ?_) N (1 : Int32) h hf)
  · refine Z.sub [0, 1, 2, 3] rfl (zl_L_writeNumber_18 hd  N u2 h3 hf)
set_option maxRecDepth 4000 in
theorem zl_L_writeNumbers_17 {Γ : zG} {N d : Nat} {h0 : zH} (hd : 26 ≤ d) {v0 : Nat} {v1 : Nat} {v4 : Nat} {v5 : Int32} {k1 : zH → Option (zH)} {w : zH}  (hk1 : ∀ (h : zH), k1 h = some w → Z Γ m_L_writeNumbers d h0 (zoV w) 51 [(0, .ref v0), (1, .ref v1)] [] h) : ∀ (n : Nat) (v6 : Int32) (h : zH), f_L_writeNumbers_l17 N (zKa Γ) v0 v1 v4 v5 k1 n v6 h = some w → Z Γ m_L_writeNumbers d h0 (zoV w) 17 [(0, .ref v0), (1, .ref v1), (4, .ref v4), (5, .int v5), (6, .int v6)] [] h := by
  intro n
  induction n with
  | zero => intro v6 h hf; cases hf
  | succ n ih =>
    intro v6 h hf
    rw [f_L_writeNumbers_l17] at hf
    refine z_iload 4 dL_writeNumbers_17 rfl ?_
    refine z_iload 3 dL_writeNumbers_19 rfl ?_
    refine z_icmp_ge 51 dL_writeNumbers_21 (by decide) hf (fun hf => ?_) (fun hf => ?_)
    · exact Z.sub [0, 1] rfl (hk1 h hf)
    · refine z_aload 2 dL_writeNumbers_24 rfl ?_
      refine z_iload 4 dL_writeNumbers_26 rfl ?_
      refine z_iaload dL_writeNumbers_28 hf fun x3 hf => ?_
      refine z_istore [(7, .int x3), (0, .ref v0), (1, .ref v1), (4, .ref v4), (5, .int v5), (6, .int v6)] dL_writeNumbers_29 (by decide) rfl ?_
      refine z_aload_n 1 dL_writeNumbers_31 rfl rfl ?_
      refine z_aload_n 2 dL_writeNumbers_32 rfl rfl ?_
      refine z_ldcL 6 11 (by decide) (by decide) rfl rfl dL_writeNumbers_33 ?_
      refine z_cS_v (d' := d - 1) (As := [.ref v0, .ref v1, .ref ((zKa Γ) 11)]) (rest := []) dL_writeNumbers_35 lk_L_131 hf (fun w1 e1 => zc_L_write (by omega) e1) (by omega) rfl rfl (Nat.le_of_ble_eq_true rfl) fun y4 hf => ?_
      refine z_aload_n 1 dL_writeNumbers_38 rfl rfl ?_
      refine z_aload_n 2 dL_writeNumbers_39 rfl rfl ?_
      refine z_iload 0 dL_writeNumbers_40 rfl ?_
      refine z_cS_v (d' := d - 1) (As := [.ref v0, .ref v1, .int x3]) (rest := []) dL_writeNumbers_42 lk_L_137 hf (fun w1 e1 => zc_L_writeNumber (by omega) e1) (by omega) rfl rfl (Nat.le_of_ble_eq_true rfl) fun y5 hf => ?_
      refine z_iinc (v6 + (1 : Int32)) 5 [(6, .int (v6 + (1 : Int32))), (7, .int x3), (0, .ref v0), (1, .ref v1), (4, .ref v4), (5, .int v5)] dL_writeNumbers_45 rfl rfl (by decide) rfl ?_
      refine z_goto 17 dL_writeNumbers_48 (by decide) ?_
      exact Z.sub [2, 3, 4, 5, 0] rfl (ih (v6 + (1 : Int32)) y5 hf)
set_option maxRecDepth 4000 in
theorem zc_L_writeNumbers {Γ : zG} {N d : Nat} (hd : 26 ≤ d) {p1 : Nat} {p2 : Nat} {p3 : Nat} {p4 : Nat} {h : zH} {w : zH} (hf : f_L_writeNumbers N (zKa Γ) p1 p2 p3 p4 h = some w) : Zm Γ m_L_writeNumbers d [.ref p1, .ref p2, .ref p3, .ref p4] h (zoV w) := by
  unfold f_L_writeNumbers at hf
  refine z_meth rfl (plainFor_of_name wpl_L) (by simp [lg_sl, Value.category, zml, m_L_writeNumbers]) ?_
  refine z_aload_n 0 dL_writeNumbers_0 rfl rfl ?_
  refine z_aload_n 1 dL_writeNumbers_1 rfl rfl ?_
  refine z_aload_n 2 dL_writeNumbers_2 rfl rfl ?_
  refine z_cS_v (d' := d - 1) (As := [.ref p1, .ref p2, .ref p3]) (rest := []) dL_writeNumbers_3 lk_L_131 hf (fun w1 e1 => zc_L_write (by omega) e1) (by omega) rfl rfl (Nat.le_of_ble_eq_true rfl) fun y1 hf => ?_
  refine z_aload_n 3 dL_writeNumbers_6 rfl rfl ?_
  refine z_astore [(4, .ref p4), (0, .ref p1), (1, .ref p2), (2, .ref p3), (3, .ref p4)] dL_writeNumbers_7 (by decide) rfl ?_
  refine z_aload 0 dL_writeNumbers_9 rfl ?_
  refine z_alen dL_writeNumbers_11 hf fun x2 hf => ?_
  refine z_istore [(5, .int x2), (4, .ref p4), (0, .ref p1), (1, .ref p2), (2, .ref p3), (3, .ref p4)] dL_writeNumbers_12 (by decide) rfl ?_
  refine z_iconst (0 : Int32) dL_writeNumbers_14 (by decide) ?_
  refine z_istore [(6, .int (0 : Int32)), (5, .int x2), (4, .ref p4), (0, .ref p1), (1, .ref p2), (2, .ref p3), (3, .ref p4)] dL_writeNumbers_15 (by decide) rfl ?_
  refine Z.sub [3, 4, 2, 1, 0] rfl (zl_L_writeNumbers_17 hd (fun h6 hf => ?_) N (0 : Int32) y1 hf)
  · refine z_aload_n 0 dL_writeNumbers_51 rfl rfl ?_
    refine z_aload_n 1 dL_writeNumbers_52 rfl rfl ?_
    refine z_ldcL 7 12 (by decide) (by decide) rfl rfl dL_writeNumbers_53 ?_
    refine z_cS_v (d' := d - 1) (As := [.ref p1, .ref p2, .ref ((zKa Γ) 12)]) (rest := []) dL_writeNumbers_55 lk_L_131 hf (fun w1 e1 => zc_L_write (by omega) e1) (by omega) rfl rfl (Nat.le_of_ble_eq_true rfl) fun y7 hf => ?_
    exact z_vret dL_writeNumbers_58 rfl (by cases hf; rfl)
set_option maxRecDepth 4000 in
theorem zl_L_random_9 {Γ : zG} {N d : Nat} {h0 : zH} (hd : 11 ≤ d) {v0 : Nat} {v2 : Nat}  {w : Nat × zH}   : ∀ (n : Nat) (v3 : Int32) (h : zH), f_L_random_l9 N v0 v2 n v3 h = some w → Z Γ m_L_random d h0 (zoA w) 9 [(0, .ref v0), (2, .ref v2), (3, .int v3)] [] h := by
  intro n
  induction n with
  | zero => intro v3 h hf; cases hf
  | succ n ih =>
    intro v3 h hf
    rw [f_L_random_l9] at hf
    refine z_iload_n 2 dL_random_9 rfl rfl ?_
    refine z_if_le 46 dL_random_10 (by decide) hf (fun hf => ?_) (fun hf => ?_)
    · refine z_aload_n 1 dL_random_46 rfl rfl ?_
      exact z_aret dL_random_47 rfl (Or.inr ⟨_, rfl⟩) (Or.inr ⟨_, rfl⟩) (by cases hf; rfl)
    · refine z_aload_n 0 dL_random_13 rfl rfl ?_
      refine z_iload_n 2 dL_random_14 rfl rfl ?_
      refine z_iconst (1 : Int32) dL_random_15 (by decide) ?_
      refine z_iadd dL_random_16 ?_
      refine z_cV_i (d' := d - 1) (As := [.int (v3 + (1 : Int32))]) (rest := []) dL_random_17 lk_L_124 rfl hf (fun w1 e1 => zc_X11_below (by omega) e1) (by omega) rfl rfl (Nat.le_of_ble_eq_true rfl) fun y2 hf => ?_
      refine z_istore [(4, .int y2.1), (0, .ref v0), (2, .ref v2), (3, .int v3)] dL_random_20 (by decide) rfl ?_
      refine z_aload_n 2 dL_random_22 rfl rfl ?_
      refine z_iload_n 3 dL_random_23 rfl rfl ?_
      refine z_iaload dL_random_24 hf fun x3 hf => ?_
      refine z_istore [(5, .int x3), (4, .int y2.1), (0, .ref v0), (2, .ref v2), (3, .int v3)] dL_random_25 (by decide) rfl ?_
      refine z_aload_n 3 dL_random_27 rfl rfl ?_
      refine z_iload_n 4 dL_random_28 rfl rfl ?_
      refine z_aload_n 3 dL_random_29 rfl rfl ?_
      refine z_iload 1 dL_random_30 rfl ?_
      refine z_iaload dL_random_32 hf fun x4 hf => ?_
      refine z_iastore dL_random_33 hf fun h5 hf => ?_
      refine z_aload_n 3 dL_random_34 rfl rfl ?_
      refine z_iload 1 dL_random_35 rfl ?_
      refine z_iload 0 dL_random_37 rfl ?_
      refine z_iastore dL_random_39 hf fun h6 hf => ?_
      refine z_iinc (v3 + (-1 : Int32)) 4 [(3, .int (v3 + (-1 : Int32))), (5, .int x3), (4, .int y2.1), (0, .ref v0), (2, .ref v2)] dL_random_40 rfl rfl (by decide) rfl ?_
      refine z_goto 9 dL_random_43 (by decide) ?_
      exact Z.sub [3, 4, 0] rfl (ih (v3 + (-1 : Int32)) h6 hf)
set_option maxRecDepth 4000 in
theorem zc_L_random {Γ : zG} {N d : Nat} (hd : 11 ≤ d) {p1 : Nat} {p2 : Int32} {h : zH} {w : Nat × zH} (hf : f_L_random N p1 p2 h = some w) : Zm Γ m_L_random d [.ref p1, .int p2] h (zoA w) := by
  unfold f_L_random at hf
  refine z_meth rfl (plainFor_of_name wpl_L) (by simp [lg_sl, Value.category, zml, m_L_random]) ?_
  refine z_iload_n 1 dL_random_0 rfl rfl ?_
  refine z_cS_a (d' := d - 1) (As := [.int p2]) (rest := []) dL_random_1 lk_L_120 hf (fun w1 e1 => zc_L_neutral (by omega) e1) (by omega) rfl rfl (Nat.le_of_ble_eq_true rfl) fun y1 hf => ?_
  refine z_astore_n [(2, .ref y1.1), (0, .ref p1), (1, .int p2)] dL_random_4 rfl (by decide) rfl ?_
  refine z_iload_n 2 dL_random_5 rfl rfl ?_
  refine z_iconst (1 : Int32) dL_random_6 (by decide) ?_
  refine z_isub dL_random_7 ?_
  refine z_istore_n [(3, .int (p2 - (1 : Int32))), (2, .ref y1.1), (0, .ref p1), (1, .int p2)] dL_random_8 rfl (by decide) rfl ?_
  refine Z.sub [2, 1, 0] rfl (zl_L_random_9 hd  N (p2 - (1 : Int32)) y1.2 hf)
set_option maxRecDepth 4000 in
theorem zc_X9_init {Γ : zG} {N d : Nat} (hd : 10 ≤ d) {a : Nat} {p1 : Int32} {p2 : Nat} {p3 : Int32} {h : zH} {w : zH} (hf : f_X9_init N a p1 p2 p3 h = some w) : Zm Γ m_X9_init d [.ref a, .int p1, .ref p2, .int p3] h (zoV w) := by
  unfold f_X9_init at hf
  refine z_meth rfl (plainFor_of_name wpl_X9) (by simp [lg_sl, Value.category, zml, m_X9_init]) ?_
  refine z_aload_n 0 dX9_init_0 rfl rfl ?_
  refine z_objInit dX9_init_1 wl_X9_1 wi_obj wi_objc (by omega) (Nat.le_of_ble_eq_true rfl) ?_
  refine z_aload_n 0 dX9_init_4 rfl rfl ?_
  refine z_iload_n 1 dX9_init_5 rfl rfl ?_
  refine z_putB dX9_init_6 zc9 (by decide) wf_X9_7 (Or.inl rfl) rfl rfl hf fun h1 hf => ?_
  refine z_aload_n 0 dX9_init_9 rfl rfl ?_
  refine z_aload_n 2 dX9_init_10 rfl rfl ?_
  refine z_putB dX9_init_11 zc9 (by decide) wf_X9_13 (Or.inl rfl) rfl rfl hf fun h2 hf => ?_
  refine z_aload_n 0 dX9_init_14 rfl rfl ?_
  refine z_iload_n 3 dX9_init_15 rfl rfl ?_
  refine z_putB dX9_init_16 zc9 (by decide) wf_X9_17 (Or.inl rfl) rfl rfl hf fun h3 hf => ?_
  exact z_vret dX9_init_19 rfl (by cases hf; rfl)
set_option maxRecDepth 4000 in
theorem zl_L_with_10 {Γ : zG} {N d : Nat} {h0 : zH} (hd : 10 ≤ d) {v0 : Nat} {v1 : Nat} {v2 : Nat} {k1 : zH → Option (Nat × zH)} {w : Nat × zH}  (hk1 : ∀ (h : zH), k1 h = some w → Z Γ m_L_with d h0 (zoA w) 28 [(0, .ref v0), (1, .ref v1), (2, .ref v2)] [] h) : ∀ (n : Nat) (v3 : Int32) (h : zH), f_L_with_l10 N v0 v1 v2 k1 n v3 h = some w → Z Γ m_L_with d h0 (zoA w) 10 [(0, .ref v0), (1, .ref v1), (2, .ref v2), (3, .int v3)] [] h := by
  intro n
  induction n with
  | zero => intro v3 h hf; cases hf
  | succ n ih =>
    intro v3 h hf
    rw [f_L_with_l10] at hf
    refine z_iload_n 3 dL_with_10 rfl rfl ?_
    refine z_aload_n 0 dL_with_11 rfl rfl ?_
    refine z_alen dL_with_12 hf fun x3 hf => ?_
    refine z_icmp_ge 28 dL_with_13 (by decide) hf (fun hf => ?_) (fun hf => ?_)
    · exact Z.sub [0, 1, 2] rfl (hk1 h hf)
    · refine z_aload_n 2 dL_with_16 rfl rfl ?_
      refine z_iload_n 3 dL_with_17 rfl rfl ?_
      refine z_aload_n 0 dL_with_18 rfl rfl ?_
      refine z_iload_n 3 dL_with_19 rfl rfl ?_
      refine z_aaload dL_with_20 hf fun x4 hf => ?_
      refine z_aastore dL_with_21 hf fun h5 hf => ?_
      refine z_iinc (v3 + (1 : Int32)) 3 [(3, .int (v3 + (1 : Int32))), (0, .ref v0), (1, .ref v1), (2, .ref v2)] dL_with_22 rfl rfl (by decide) rfl ?_
      refine z_goto 10 dL_with_25 (by decide) ?_
      exact Z.sub [1, 2, 3, 0] rfl (ih (v3 + (1 : Int32)) h5 hf)
set_option maxRecDepth 4000 in
theorem zc_L_with {Γ : zG} {N d : Nat} (hd : 10 ≤ d) {p1 : Nat} {p2 : Nat} {h : zH} {w : Nat × zH} (hf : f_L_with N p1 p2 h = some w) : Zm Γ m_L_with d [.ref p1, .ref p2] h (zoA w) := by
  unfold f_L_with at hf
  refine z_meth rfl (plainFor_of_name wpl_L) (by simp [lg_sl, Value.category, zml, m_L_with]) ?_
  refine z_aload_n 0 dL_with_0 rfl rfl ?_
  refine z_alen dL_with_1 hf fun x1 hf => ?_
  refine z_iconst (1 : Int32) dL_with_2 (by decide) ?_
  refine z_iadd dL_with_3 ?_
  refine z_nwQ 5 rfl dL_with_4 wc_L_129 wo_5 hf fun y2 hf => ?_
  refine z_astore_n [(2, .ref y2.1), (0, .ref p1), (1, .ref p2)] dL_with_7 rfl (by decide) rfl ?_
  refine z_iconst (0 : Int32) dL_with_8 (by decide) ?_
  refine z_istore_n [(3, .int (0 : Int32)), (2, .ref y2.1), (0, .ref p1), (1, .ref p2)] dL_with_9 rfl (by decide) rfl ?_
  refine Z.sub [2, 3, 1, 0] rfl (zl_L_with_10 hd (fun h6 hf => ?_) N (0 : Int32) y2.2 hf)
  · refine z_aload_n 2 dL_with_28 rfl rfl ?_
    refine z_aload_n 0 dL_with_29 rfl rfl ?_
    refine z_alen dL_with_30 hf fun x7 hf => ?_
    refine z_aload_n 1 dL_with_31 rfl rfl ?_
    refine z_aastore dL_with_32 hf fun h8 hf => ?_
    refine z_aload_n 2 dL_with_33 rfl rfl ?_
    exact z_aret dL_with_34 rfl (Or.inr ⟨_, rfl⟩) (Or.inr ⟨_, rfl⟩) (by cases hf; rfl)
set_option maxRecDepth 4000 in
theorem zc_X10_init {Γ : zG} {N d : Nat} (hd : 10 ≤ d) {a : Nat} {h : zH} {w : zH} (hf : f_X10_init N a h = some w) : Zm Γ m_X10_init d [.ref a] h (zoV w) := by
  unfold f_X10_init at hf
  refine z_meth rfl (plainFor_of_name wpl_X10) (by simp [lg_sl, Value.category, zml, m_X10_init]) ?_
  refine z_aload_n 0 dX10_init_0 rfl rfl ?_
  refine z_objInit dX10_init_1 wl_X10_1 wi_obj wi_objc (by omega) (Nat.le_of_ble_eq_true rfl) ?_
  exact z_vret dX10_init_4 rfl (by cases hf; rfl)
set_option maxRecDepth 4000 in
theorem zj_X10_random_67 {Γ : zG} {N d : Nat} {h0 : zH} {rs : Nat → Int32 → zH → Option (Nat × zH)} {dr : Nat} (hrs : ∀ (p1 : Nat) (p2 : Int32) (h : zH) (w : Nat × zH), rs p1 p2 h = some w → Zm Γ m_X10_random dr [.ref p1, .int p2] h (zoA w)) (hd : 11 ≤ d ∧ dr + 1 ≤ d) {v0 : Nat} {v1 : Int32} {v2 : Nat} {s0 : Nat} {s1 : Int32} {h : zH} {w : Nat × zH} (hf : f_X10_random_j67 N rs v0 v1 v2 s0 s1 h = some w) : Z Γ m_X10_random d h0 (zoA w) 67 [(0, .ref v0), (1, .int v1), (2, .ref v2)] [.int s1, .ref s0] h := by
  unfold f_X10_random_j67 at hf
  refine z_putB dX10_random_67 zc10 (by decide) wf_X10_20 (Or.inl rfl) rfl rfl hf fun h7 hf => ?_
  refine z_aload_n 2 dX10_random_70 rfl rfl ?_
  refine z_getI dX10_random_71 zc10 (by decide) wf_X10_16 hf fun x8 hf => ?_
  refine z_iconst (1 : Int32) dX10_random_74 (by decide) ?_
  refine z_icmp_le 100 dX10_random_75 (by decide) hf (fun hf => ?_) (fun hf => ?_)
  · refine z_aload_n 2 dX10_random_100 rfl rfl ?_
    exact z_aret dX10_random_101 rfl (Or.inl ⟨_, rfl⟩) (Or.inr ⟨_, rfl⟩) (by cases hf; rfl)
  · refine z_aload_n 2 dX10_random_78 rfl rfl ?_
    refine z_aload_n 0 dX10_random_79 rfl rfl ?_
    refine z_iload_n 1 dX10_random_80 rfl rfl ?_
    refine z_iconst (1 : Int32) dX10_random_81 (by decide) ?_
    refine z_isub dX10_random_82 ?_
    refine z_cS_a (d' := dr) (As := [.ref v0, .int (v1 - (1 : Int32))]) (rest := [.ref v2]) dX10_random_83 lk_X10_23 hf (fun w1 e1 => hrs _ _ _ _ e1) (by omega) rfl rfl (Nat.le_of_ble_eq_true rfl) fun y9 hf => ?_
    refine z_putB dX10_random_86 zc10 (by decide) wf_X10_27 (Or.inl rfl) rfl rfl hf fun h10 hf => ?_
    refine z_aload_n 2 dX10_random_89 rfl rfl ?_
    refine z_aload_n 0 dX10_random_90 rfl rfl ?_
    refine z_iload_n 1 dX10_random_91 rfl rfl ?_
    refine z_iconst (1 : Int32) dX10_random_92 (by decide) ?_
    refine z_isub dX10_random_93 ?_
    refine z_cS_a (d' := dr) (As := [.ref v0, .int (v1 - (1 : Int32))]) (rest := [.ref v2]) dX10_random_94 lk_X10_23 hf (fun w1 e1 => hrs _ _ _ _ e1) (by omega) rfl rfl (Nat.le_of_ble_eq_true rfl) fun y11 hf => ?_
    refine z_putB dX10_random_97 zc10 (by decide) wf_X10_31 (Or.inl rfl) rfl rfl hf fun h12 hf => ?_
    refine z_aload_n 2 dX10_random_100 rfl rfl ?_
    exact z_aret dX10_random_101 rfl (Or.inl ⟨_, rfl⟩) (Or.inr ⟨_, rfl⟩) (by cases hf; rfl)
set_option maxRecDepth 4000 in
theorem zj_X10_random_56 {Γ : zG} {N d : Nat} {h0 : zH} {rs : Nat → Int32 → zH → Option (Nat × zH)} {dr : Nat} (hrs : ∀ (p1 : Nat) (p2 : Int32) (h : zH) (w : Nat × zH), rs p1 p2 h = some w → Zm Γ m_X10_random dr [.ref p1, .int p2] h (zoA w)) (hd : 11 ≤ d ∧ dr + 1 ≤ d) {v0 : Nat} {v1 : Int32} {v2 : Nat} {s0 : Nat} {s1 : Nat} {s2 : Int32} {h : zH} {w : Nat × zH} (hf : f_X10_random_j56 N rs v0 v1 v2 s0 s1 s2 h = some w) : Z Γ m_X10_random d h0 (zoA w) 56 [(0, .ref v0), (1, .int v1), (2, .ref v2)] [.int s2, .ref s1, .ref s0] h := by
  unfold f_X10_random_j56 at hf
  refine z_cV_i (d' := d - 1) (As := [.int s2]) (rest := [.ref s0]) dX10_random_56 lk_X10_10 rfl hf (fun w1 e1 => zc_X11_below (by omega) e1) (by omega) rfl rfl (Nat.le_of_ble_eq_true rfl) fun y14 hf => ?_
  refine z_goto 67 dX10_random_59 (by decide) ?_
  exact Z.sub [0, 1, 2] rfl (zj_X10_random_67 hrs hd hf)
set_option maxRecDepth 4000 in
theorem zj_X10_random_27 {Γ : zG} {N d : Nat} {h0 : zH} {rs : Nat → Int32 → zH → Option (Nat × zH)} {dr : Nat} (hrs : ∀ (p1 : Nat) (p2 : Int32) (h : zH) (w : Nat × zH), rs p1 p2 h = some w → Zm Γ m_X10_random dr [.ref p1, .int p2] h (zoA w)) (hd : 11 ≤ d ∧ dr + 1 ≤ d) {v0 : Nat} {v1 : Int32} {v2 : Nat} {s0 : Nat} {s1 : Int32} {h : zH} {w : Nat × zH} (hf : f_X10_random_j27 N rs v0 v1 v2 s0 s1 h = some w) : Z Γ m_X10_random d h0 (zoA w) 27 [(0, .ref v0), (1, .int v1), (2, .ref v2)] [.int s1, .ref s0] h := by
  unfold f_X10_random_j27 at hf
  refine z_putB dX10_random_27 zc10 (by decide) wf_X10_16 (Or.inl rfl) rfl rfl hf fun h4 hf => ?_
  refine z_aload_n 2 dX10_random_30 rfl rfl ?_
  refine z_aload_n 2 dX10_random_31 rfl rfl ?_
  refine z_getI dX10_random_32 zc10 (by decide) wf_X10_16 hf fun x5 hf => ?_
  refine z_if_ne 62 dX10_random_35 (by decide) hf (fun hf => ?_) (fun hf => ?_)
  · refine z_aload_n 0 dX10_random_38 rfl rfl ?_
    refine z_aload_n 0 dX10_random_39 rfl rfl ?_
    refine z_bipush (8 : Int32) dX10_random_40 (by decide) ?_
    refine z_cV_i (d' := d - 1) (As := [.int (8 : Int32)]) (rest := [.ref v0, .ref v2]) dX10_random_42 lk_X10_10 rfl hf (fun w1 e1 => zc_X11_below (by omega) e1) (by omega) rfl rfl (Nat.le_of_ble_eq_true rfl) fun y13 hf => ?_
    refine z_if_ne 54 dX10_random_45 (by decide) hf (fun hf => ?_) (fun hf => ?_)
    · refine z_sipush (10000 : Int32) dX10_random_48 (by decide) ?_
      refine z_goto 56 dX10_random_51 (by decide) ?_
      exact Z.sub [0, 1, 2] rfl (zj_X10_random_56 hrs hd hf)
    · refine z_bipush (9 : Int32) dX10_random_54 (by decide) ?_
      exact Z.sub [0, 1, 2] rfl (zj_X10_random_56 hrs hd hf)
  · refine z_aload_n 0 dX10_random_62 rfl rfl ?_
    refine z_iconst (4 : Int32) dX10_random_63 (by decide) ?_
    refine z_cV_i (d' := d - 1) (As := [.int (4 : Int32)]) (rest := [.ref v2]) dX10_random_64 lk_X10_10 rfl hf (fun w1 e1 => zc_X11_below (by omega) e1) (by omega) rfl rfl (Nat.le_of_ble_eq_true rfl) fun y6 hf => ?_
    exact Z.sub [0, 1, 2] rfl (zj_X10_random_67 hrs hd hf)
set_option maxRecDepth 4000 in
theorem zc_X10_random {Γ : zG} {N d : Nat} {rs : Nat → Int32 → zH → Option (Nat × zH)} {dr : Nat} (hrs : ∀ (p1 : Nat) (p2 : Int32) (h : zH) (w : Nat × zH), rs p1 p2 h = some w → Zm Γ m_X10_random dr [.ref p1, .int p2] h (zoA w)) (hd : 11 ≤ d ∧ dr + 1 ≤ d) {p1 : Nat} {p2 : Int32} {h : zH} {w : Nat × zH} (hf : f_X10_random N rs p1 p2 h = some w) : Zm Γ m_X10_random d [.ref p1, .int p2] h (zoA w) := by
  unfold f_X10_random at hf
  refine z_meth rfl (plainFor_of_name wpl_X10) (by simp [lg_sl, Value.category, zml, m_X10_random]) ?_
  refine z_nwO dX10_random_0 zc10 wc_X10_7 wn_X10 wi_X10 rfl zd10 hf fun y1 hf => ?_
  refine z_dup dX10_random_3 rfl ?_
  refine z_cI_v (d' := d - 1) (As := []) (rest := [.ref y1.1]) dX10_random_4 lk_X10_9 hf (fun w1 e1 => zc_X10_init (by omega) e1) (by omega) rfl rfl (Nat.le_of_ble_eq_true rfl) fun y2 hf => ?_
  refine z_astore_n [(2, .ref y1.1), (0, .ref p1), (1, .int p2)] dX10_random_7 rfl (by decide) rfl ?_
  refine z_aload_n 0 dX10_random_8 rfl rfl ?_
  refine z_iload_n 2 dX10_random_9 rfl rfl ?_
  refine z_if_ne 21 dX10_random_10 (by decide) hf (fun hf => ?_) (fun hf => ?_)
  · refine z_aload_n 1 dX10_random_13 rfl rfl ?_
    refine z_iconst (2 : Int32) dX10_random_14 (by decide) ?_
    refine z_cV_i (d' := d - 1) (As := [.int (2 : Int32)]) (rest := [.ref y1.1]) dX10_random_15 lk_X10_10 rfl hf (fun w1 e1 => zc_X11_below (by omega) e1) (by omega) rfl rfl (Nat.le_of_ble_eq_true rfl) fun y15 hf => ?_
    refine z_goto 27 dX10_random_18 (by decide) ?_
    exact Z.sub [1, 2, 0] rfl (zj_X10_random_27 hrs hd hf)
  · refine z_aload_n 1 dX10_random_21 rfl rfl ?_
    refine z_bipush (6 : Int32) dX10_random_22 (by decide) ?_
    refine z_cV_i (d' := d - 1) (As := [.int (6 : Int32)]) (rest := [.ref y1.1]) dX10_random_24 lk_X10_10 rfl hf (fun w1 e1 => zc_X11_below (by omega) e1) (by omega) rfl rfl (Nat.le_of_ble_eq_true rfl) fun y3 hf => ?_
    exact Z.sub [1, 2, 0] rfl (zj_X10_random_27 hrs hd hf)
theorem zc_X10_randomN {Γ : zG} {N n d : Nat} (hd : 60 + 4 * n ≤ d) {p1 : Nat} {p2 : Int32} {h : zH} {w : Nat × zH} (hf : f_X10_randomN N n p1 p2 h = some w) : Zm Γ m_X10_random d [.ref p1, .int p2] h (zoA w) := by
  induction n generalizing d p1 p2 h w with
  | zero => cases hf
  | succ n ih =>
    rw [f_X10_randomN] at hf
    exact zc_X10_random (dr := d - 4) (fun p1 p2 h w e => ih (by omega) e) ⟨by omega, by omega⟩ hf
set_option maxRecDepth 4000 in
theorem zc_J5_init_d00df {Γ : zG} {N d : Nat} (hd : 10 ≤ d) {a : Nat} {p1 : Int32} {h : zH} {w : zH} (hf : f_J5_init_d00df N a p1 h = some w) : Zm Γ m_J5_init_d00df d [.ref a, .int p1] h (zoV w) := by
  unfold f_J5_init_d00df at hf
  refine z_meth rfl (plainFor_of_name (by decide +kernel)) (by simp [lg_sl, Value.category, zml, m_J5_init_d00df]) ?_
  refine z_aload_n 0 dJ5_init_d00df_0 rfl rfl ?_
  refine z_objInit dJ5_init_d00df_1 wl_J5_3 wi_obj wi_objc (by omega) (Nat.le_of_ble_eq_true rfl) ?_
  refine z_cs dJ5_init_d00df_4 wj_J5_18 ?_
  refine z_if_eq 25 dJ5_init_d00df_7 (by decide) hf (fun hf => ?_) (fun hf => ?_)
  · cases hf
  · refine z_aload_n 0 dJ5_init_d00df_10 rfl rfl ?_
    refine z_iload_n 1 dJ5_init_d00df_11 rfl rfl ?_
    refine z_nwZ dJ5_init_d00df_12 wa_Z hf fun y1 hf => ?_
    refine z_putB dJ5_init_d00df_14 zc14 (by decide) wf_J5_15 (Or.inl rfl) rfl rfl hf fun h2 hf => ?_
    refine z_aload_n 0 dJ5_init_d00df_17 rfl rfl ?_
    refine z_iconst (0 : Int32) dJ5_init_d00df_18 (by decide) ?_
    refine z_putB dJ5_init_d00df_19 zc14 (by decide) wf_J5_22 (Or.inl rfl) rfl rfl hf fun h3 hf => ?_
    refine z_goto 38 dJ5_init_d00df_22 (by decide) ?_
    exact z_vret dJ5_init_d00df_38 rfl (by cases hf; rfl)
set_option maxRecDepth 4000 in
theorem zc_J4_init_da8c8 {Γ : zG} {N d : Nat} (hd : 11 ≤ d) {a : Nat} {h : zH} {w : zH} (hf : f_J4_init_da8c8 N a h = some w) : Zm Γ m_J4_init_da8c8 d [.ref a] h (zoV w) := by
  unfold f_J4_init_da8c8 at hf
  refine z_meth rfl (plainFor_of_name (by decide +kernel)) (by simp [lg_sl, Value.category, zml, m_J4_init_da8c8]) ?_
  refine z_aload_n 0 dJ4_init_da8c8_0 rfl rfl ?_
  refine z_bipush (16 : Int32) dJ4_init_da8c8_1 (by decide) ?_
  refine z_cI_v (d' := d - 1) (As := [.int (16 : Int32)]) (rest := []) dJ4_init_da8c8_3 lk_J4_1 hf (fun w1 e1 => zc_J5_init_d00df (by omega) e1) (by omega) rfl rfl (Nat.le_of_ble_eq_true rfl) fun y1 hf => ?_
  exact z_vret dJ4_init_da8c8_6 rfl (by cases hf; rfl)
set_option maxRecDepth 4000 in
theorem zc_J8_newLength_cabcc {Γ : zG} {N d : Nat} (hd : 11 ≤ d) {p1 : Int32} {p2 : Int32} {p3 : Int32} {h : zH} {w : Int32 × zH} (hf : f_J8_newLength_cabcc N p1 p2 p3 h = some w) : Zm Γ m_J8_newLength_cabcc d [.int p1, .int p2, .int p3] h (zoI w) := by
  unfold f_J8_newLength_cabcc at hf
  refine z_meth rfl (plainFor_of_name (by decide +kernel)) (by simp [lg_sl, Value.category, zml, m_J8_newLength_cabcc]) ?_
  refine z_iload_n 0 dJ8_newLength_cabcc_0 rfl rfl ?_
  refine z_iload_n 1 dJ8_newLength_cabcc_1 rfl rfl ?_
  refine z_iload_n 2 dJ8_newLength_cabcc_2 rfl rfl ?_
  refine z_cS_i (d' := d - 1) (As := [.int p2, .int p3]) (rest := [.int p1]) dJ8_newLength_cabcc_3 lk_J8_194 hf (fun w1 e1 => zc_J9_max_7cf53 (by omega) e1) (by omega) rfl rfl (Nat.le_of_ble_eq_true rfl) fun y1 hf => ?_
  refine z_iadd dJ8_newLength_cabcc_6 ?_
  refine z_istore_n [(3, .int (p1 + y1.1)), (0, .int p1), (1, .int p2), (2, .int p3)] dJ8_newLength_cabcc_7 rfl (by decide) rfl ?_
  refine z_iconst (0 : Int32) dJ8_newLength_cabcc_8 (by decide) ?_
  refine z_iload_n 0 dJ8_newLength_cabcc_9 rfl rfl ?_
  refine z_icmp_ge 21 dJ8_newLength_cabcc_10 (by decide) hf (fun hf => ?_) (fun hf => ?_)
  · cases hf
  · refine z_iload_n 0 dJ8_newLength_cabcc_13 rfl rfl ?_
    refine z_ldc (2147483639 : Int32) dJ8_newLength_cabcc_14 wk_J8_200 ?_
    refine z_icmp_gt 21 dJ8_newLength_cabcc_16 (by decide) hf (fun hf => ?_) (fun hf => ?_)
    · cases hf
    · refine z_iload_n 0 dJ8_newLength_cabcc_19 rfl rfl ?_
      exact z_iret dJ8_newLength_cabcc_20 rfl (by cases hf; rfl)
set_option maxRecDepth 4000 in
theorem zc_J5_newCapacity_0f7a4 {Γ : zG} {N d : Nat} (hd : 12 ≤ d) {a : Nat} {p1 : Int32} {h : zH} {w : Int32 × zH} (hf : f_J5_newCapacity_0f7a4 N a p1 h = some w) : Zm Γ m_J5_newCapacity_0f7a4 d [.ref a, .int p1] h (zoI w) := by
  unfold f_J5_newCapacity_0f7a4 at hf
  refine z_meth rfl (plainFor_of_name (by decide +kernel)) (by simp [lg_sl, Value.category, zml, m_J5_newCapacity_0f7a4]) ?_
  refine z_aload_n 0 dJ5_newCapacity_0f7a4_0 rfl rfl ?_
  refine z_getA dJ5_newCapacity_0f7a4_1 zc14 (by decide) wf_J5_15 hf fun x1 hf => ?_
  refine z_alen dJ5_newCapacity_0f7a4_4 hf fun x2 hf => ?_
  refine z_istore_n [(2, .int x2), (0, .ref a), (1, .int p1)] dJ5_newCapacity_0f7a4_5 rfl (by decide) rfl ?_
  refine z_iload_n 2 dJ5_newCapacity_0f7a4_6 rfl rfl ?_
  refine z_aload_n 1 dJ5_newCapacity_0f7a4_7 rfl rfl ?_
  refine z_getI dJ5_newCapacity_0f7a4_8 zc14 (by decide) wf_J5_22 hf fun x3 hf => ?_
  refine z_ishl dJ5_newCapacity_0f7a4_11 ?_
  refine z_istore_n [(3, .int (p1 <<< (x3 &&& 31))), (2, .int x2), (0, .ref a), (1, .int p1)] dJ5_newCapacity_0f7a4_12 rfl (by decide) rfl ?_
  refine z_iload_n 0 dJ5_newCapacity_0f7a4_13 rfl rfl ?_
  refine z_iload_n 1 dJ5_newCapacity_0f7a4_14 rfl rfl ?_
  refine z_isub dJ5_newCapacity_0f7a4_15 ?_
  refine z_istore [(4, .int ((p1 <<< (x3 &&& 31)) - x2)), (3, .int (p1 <<< (x3 &&& 31))), (2, .int x2), (0, .ref a), (1, .int p1)] dJ5_newCapacity_0f7a4_16 (by decide) rfl ?_
  refine z_iload_n 2 dJ5_newCapacity_0f7a4_18 rfl rfl ?_
  refine z_iload 0 dJ5_newCapacity_0f7a4_19 rfl ?_
  refine z_iload_n 2 dJ5_newCapacity_0f7a4_21 rfl rfl ?_
  refine z_iconst (2 : Int32) dJ5_newCapacity_0f7a4_22 (by decide) ?_
  refine z_aload_n 3 dJ5_newCapacity_0f7a4_23 rfl rfl ?_
  refine z_getI dJ5_newCapacity_0f7a4_24 zc14 (by decide) wf_J5_22 hf fun x4 hf => ?_
  refine z_ishl dJ5_newCapacity_0f7a4_27 ?_
  refine z_iadd dJ5_newCapacity_0f7a4_28 ?_
  refine z_cS_i (d' := d - 1) (As := [.int x2, .int ((p1 <<< (x3 &&& 31)) - x2), .int (x2 + ((2 : Int32) <<< (x4 &&& 31)))]) (rest := []) dJ5_newCapacity_0f7a4_29 lk_J5_114 hf (fun w1 e1 => zc_J8_newLength_cabcc (by omega) e1) (by omega) rfl rfl (Nat.le_of_ble_eq_true rfl) fun y5 hf => ?_
  refine z_istore [(5, .int y5.1), (4, .int ((p1 <<< (x3 &&& 31)) - x2)), (3, .int (p1 <<< (x3 &&& 31))), (2, .int x2), (0, .ref a), (1, .int p1)] dJ5_newCapacity_0f7a4_32 (by decide) rfl ?_
  refine z_iload 0 dJ5_newCapacity_0f7a4_34 rfl ?_
  refine z_ldc (2147483647 : Int32) dJ5_newCapacity_0f7a4_36 wk_J5_39 ?_
  refine z_icmp_ne 51 dJ5_newCapacity_0f7a4_38 (by decide) hf (fun hf => ?_) (fun hf => ?_)
  · cases hf
  · refine z_iload 0 dJ5_newCapacity_0f7a4_51 rfl ?_
    refine z_aload_n 4 dJ5_newCapacity_0f7a4_53 rfl rfl ?_
    refine z_getI dJ5_newCapacity_0f7a4_54 zc14 (by decide) wf_J5_22 hf fun x6 hf => ?_
    refine z_ishr dJ5_newCapacity_0f7a4_57 ?_
    exact z_iret dJ5_newCapacity_0f7a4_58 rfl (by cases hf; rfl)
set_option maxRecDepth 4000 in
theorem zc_J7_copyOf_9075b {Γ : zG} {N d : Nat} (hd : 11 ≤ d) {p1 : Nat} {p2 : Int32} {h : zH} {w : Nat × zH} (hf : f_J7_copyOf_9075b N p1 p2 h = some w) : Zm Γ m_J7_copyOf_9075b d [.ref p1, .int p2] h (zoA w) := by
  unfold f_J7_copyOf_9075b at hf
  refine z_meth rfl (plainFor_of_name (by decide +kernel)) (by simp [lg_sl, Value.category, zml, m_J7_copyOf_9075b]) ?_
  refine z_iload_n 1 dJ7_copyOf_9075b_0 rfl rfl ?_
  refine z_aload_n 0 dJ7_copyOf_9075b_1 rfl rfl ?_
  refine z_alen dJ7_copyOf_9075b_2 hf fun x1 hf => ?_
  refine z_icmp_ne 14 dJ7_copyOf_9075b_3 (by decide) hf (fun hf => ?_) (fun hf => ?_)
  · cases hf
  · refine z_iload_n 1 dJ7_copyOf_9075b_14 rfl rfl ?_
    refine z_nwZ dJ7_copyOf_9075b_15 wa_Z hf fun y2 hf => ?_
    refine z_astore_n [(2, .ref y2.1), (0, .ref p1), (1, .int p2)] dJ7_copyOf_9075b_17 rfl (by decide) rfl ?_
    refine z_aload_n 1 dJ7_copyOf_9075b_18 rfl rfl ?_
    refine z_iconst (0 : Int32) dJ7_copyOf_9075b_19 (by decide) ?_
    refine z_aload_n 0 dJ7_copyOf_9075b_20 rfl rfl ?_
    refine z_iconst (0 : Int32) dJ7_copyOf_9075b_21 (by decide) ?_
    refine z_aload_n 1 dJ7_copyOf_9075b_22 rfl rfl ?_
    refine z_alen dJ7_copyOf_9075b_23 hf fun x3 hf => ?_
    refine z_iload_n 2 dJ7_copyOf_9075b_24 rfl rfl ?_
    refine z_cS_i (d' := d - 1) (As := [.int x3, .int p2]) (rest := [.int (0 : Int32), .ref y2.1, .int (0 : Int32), .ref p1]) dJ7_copyOf_9075b_25 lk_J7_304 hf (fun w1 e1 => zc_J9_min_7cf53 (by omega) e1) (by omega) rfl rfl (Nat.le_of_ble_eq_true rfl) fun y4 hf => ?_
    refine z_copyB dJ7_copyOf_9075b_28 wl_J7_150 wi_acn wi_acs wi_sys (by omega) (Nat.le_of_ble_eq_true rfl) hf fun h5 hf => ?_
    refine z_aload_n 0 dJ7_copyOf_9075b_31 rfl rfl ?_
    exact z_aret dJ7_copyOf_9075b_32 rfl (Or.inr ⟨_, rfl⟩) (Or.inr ⟨_, rfl⟩) (by cases hf; rfl)

set_option maxRecDepth 4000 in
theorem zc_X0_winningElement {Γ : zG} {N d : Nat} (hd : 13 ≤ d) {a : Nat} {h : zH} {w : Int32 × zH} (hf : f_X0_winningElement N a h = some w) : Zm Γ m_X0_winningElement d [.ref a] h (zoI w) := by
  unfold f_X0_winningElement at hf
  refine z_meth rfl (plainFor_of_name wpl_X0) (by simp [lg_sl, Value.category, zml, m_X0_winningElement]) ?_
  refine z_aload_n 0 dX0_winningElement_0 rfl rfl ?_
  refine z_getA dX0_winningElement_1 zc0 (by decide) wf_X0_9 hf fun x1 hf => ?_
  refine z_aload_n 0 dX0_winningElement_4 rfl rfl ?_
  refine z_iconst (0 : Int32) dX0_winningElement_5 (by decide) ?_
  refine z_aload_n 0 dX0_winningElement_6 rfl rfl ?_
  refine z_getA dX0_winningElement_7 zc0 (by decide) wf_X0_34 hf fun x2 hf => ?_
  refine z_cV_i (d' := d - 1) (As := []) (rest := [.int (0 : Int32), .ref a, .ref x1]) dX0_winningElement_10 lk_X0_104 rfl hf (fun w1 e1 => zc_X6_size (by omega) e1) (by omega) rfl rfl (Nat.le_of_ble_eq_true rfl) fun y3 hf => ?_
  refine z_cV_i (d' := d - 1) (As := [.int (0 : Int32), .int y3.1]) (rest := [.ref x1]) dX0_winningElement_13 lk_X0_108 rfl hf (fun w1 e1 => zc_X0_productOfBids (by omega) e1) (by omega) rfl rfl (Nat.le_of_ble_eq_true rfl) fun y4 hf => ?_
  refine z_cV_i (d' := d - 1) (As := [.int y4.1]) (rest := []) dX0_winningElement_16 lk_X0_111 rfl hf (fun w1 e1 => zc_X2_opposite (by omega) e1) (by omega) rfl rfl (Nat.le_of_ble_eq_true rfl) fun y5 hf => ?_
  exact z_iret dX0_winningElement_19 rfl (by cases hf; rfl)
set_option maxRecDepth 4000 in
theorem zl_X3_fewestCardsFor_4 {Γ : zG} {N d : Nat} {h0 : zH} (hd : 12 ≤ d) {v0 : Nat} {v1 : Int32}  {w : Int32 × zH}   : ∀ (n : Nat) (v2 : Int32) (v3 : Int32) (h : zH), f_X3_fewestCardsFor_l4 N v0 v1 n v2 v3 h = some w → Z Γ m_X3_fewestCardsFor d h0 (zoI w) 4 [(0, .ref v0), (1, .int v1), (2, .int v2), (3, .int v3)] [] h := by
  intro n
  induction n with
  | zero => intro v2 v3 h hf; cases hf
  | succ n ih =>
    intro v2 v3 h hf
    rw [f_X3_fewestCardsFor_l4] at hf
    refine z_iload_n 3 dX3_fewestCardsFor_4 rfl rfl ?_
    refine z_aload_n 0 dX3_fewestCardsFor_5 rfl rfl ?_
    refine z_getI dX3_fewestCardsFor_6 zc3 (by decide) wf_X3_40 hf fun x1 hf => ?_
    refine z_icmp_ge 47 dX3_fewestCardsFor_9 (by decide) hf (fun hf => ?_) (fun hf => ?_)
    · refine z_iload_n 2 dX3_fewestCardsFor_47 rfl rfl ?_
      exact z_iret dX3_fewestCardsFor_48 rfl (by cases hf; rfl)
    · refine z_iload_n 3 dX3_fewestCardsFor_12 rfl rfl ?_
      refine z_cS_i (d' := d - 1) (As := [.int v3]) (rest := []) dX3_fewestCardsFor_13 lk_X3_112 hf (fun w1 e1 => zc_J6_bitCount_0f7a4 (by omega) e1) (by omega) rfl rfl (Nat.le_of_ble_eq_true rfl) fun y2 hf => ?_
      refine z_istore [(4, .int y2.1), (0, .ref v0), (1, .int v1), (2, .int v2), (3, .int v3)] dX3_fewestCardsFor_16 (by decide) rfl ?_
      refine z_aload_n 1 dX3_fewestCardsFor_18 rfl rfl ?_
      refine z_iload_n 4 dX3_fewestCardsFor_19 rfl rfl ?_
      refine z_iload_n 2 dX3_fewestCardsFor_20 rfl rfl ?_
      refine z_cV_i (d' := d - 1) (As := [.int v3, .int v1]) (rest := []) dX3_fewestCardsFor_21 lk_X3_100 rfl hf (fun w1 e1 => zc_X3_contains (by omega) e1) (by omega) rfl rfl (Nat.le_of_ble_eq_true rfl) fun y3 hf => ?_
      refine zjn_elim (P := fun (j41 : Int32 → Int32 → zH → Option (Int32 × zH)) => ∀ (v2 : Int32) (v3 : Int32) (h : zH), j41 v2 v3 h = some w → Z Γ m_X3_fewestCardsFor d h0 (zoI w) 41 [(0, .ref v0), (1, .int v1), (2, .int v2), (3, .int v3)] [] h) hf (fun v2 v3 h hf => ?_) (fun j41 hj41 hf => ?_)
      · refine z_iinc (v3 + (1 : Int32)) 3 [(3, .int (v3 + (1 : Int32))), (0, .ref v0), (1, .int v1), (2, .int v2)] dX3_fewestCardsFor_41 rfl rfl (by decide) rfl ?_
        refine z_goto 4 dX3_fewestCardsFor_44 (by decide) ?_
        exact Z.sub [1, 2, 3, 0] rfl (ih v2 (v3 + (1 : Int32)) h hf)
      · refine z_if_eq 41 dX3_fewestCardsFor_24 (by decide) hf (fun hf => ?_) (fun hf => ?_)
        · exact Z.sub [1, 2, 3, 4] rfl (hj41 v2 v3 y3.2 hf)
        · refine z_iload_n 3 dX3_fewestCardsFor_27 rfl rfl ?_
          refine z_iconst (-1 : Int32) dX3_fewestCardsFor_28 (by decide) ?_
          refine zjn_elim (P := fun (j38 : Int32 → Int32 → zH → Option (Int32 × zH)) => ∀ (v3 : Int32) (v4 : Int32) (h : zH), j38 v3 v4 h = some w → Z Γ m_X3_fewestCardsFor d h0 (zoI w) 38 [(0, .ref v0), (1, .int v1), (3, .int v3), (4, .int v4)] [] h) hf (fun v3 v4 h hf => ?_) (fun j38 hj38 hf => ?_)
          · refine z_iload 3 dX3_fewestCardsFor_38 rfl ?_
            refine z_istore_n [(2, .int v4), (0, .ref v0), (1, .int v1), (3, .int v3), (4, .int v4)] dX3_fewestCardsFor_40 rfl (by decide) rfl ?_
            exact Z.sub [1, 2, 0, 3] rfl (hj41 v4 v3 h hf)
          · refine z_icmp_eq 38 dX3_fewestCardsFor_29 (by decide) hf (fun hf => ?_) (fun hf => ?_)
            · exact Z.sub [1, 2, 4, 0] rfl (hj38 v3 y2.1 y3.2 hf)
            · refine z_iload 0 dX3_fewestCardsFor_32 rfl ?_
              refine z_iload_n 3 dX3_fewestCardsFor_34 rfl rfl ?_
              refine z_icmp_ge 41 dX3_fewestCardsFor_35 (by decide) hf (fun hf => ?_) (fun hf => ?_)
              · exact Z.sub [1, 2, 3, 4] rfl (hj41 v2 v3 y3.2 hf)
              · exact Z.sub [1, 2, 4, 0] rfl (hj38 v3 y2.1 y3.2 hf)
set_option maxRecDepth 4000 in
theorem zc_X3_fewestCardsFor {Γ : zG} {N d : Nat} (hd : 12 ≤ d) {a : Nat} {p1 : Int32} {h : zH} {w : Int32 × zH} (hf : f_X3_fewestCardsFor N a p1 h = some w) : Zm Γ m_X3_fewestCardsFor d [.ref a, .int p1] h (zoI w) := by
  unfold f_X3_fewestCardsFor at hf
  refine z_meth rfl (plainFor_of_name wpl_X3) (by simp [lg_sl, Value.category, zml, m_X3_fewestCardsFor]) ?_
  refine z_iconst (-1 : Int32) dX3_fewestCardsFor_0 (by decide) ?_
  refine z_istore_n [(2, .int (-1 : Int32)), (0, .ref a), (1, .int p1)] dX3_fewestCardsFor_1 rfl (by decide) rfl ?_
  refine z_iconst (1 : Int32) dX3_fewestCardsFor_2 (by decide) ?_
  refine z_istore_n [(3, .int (1 : Int32)), (2, .int (-1 : Int32)), (0, .ref a), (1, .int p1)] dX3_fewestCardsFor_3 rfl (by decide) rfl ?_
  refine Z.sub [2, 3, 1, 0] rfl (zl_X3_fewestCardsFor_4 hd  N (-1 : Int32) (1 : Int32) h hf)
set_option maxRecDepth 4000 in
theorem zc_X8_fewest {Γ : zG} {N d : Nat} (hd : 14 ≤ d) {a : Nat} {p1 : Int32} {h : zH} {w : (Int32 ⊕ Nat) × zH} (hf : f_X8_fewest N a p1 h = some w) : Zm Γ m_X8_fewest d [.ref a, .int p1] h (zoTI w) := by
  unfold f_X8_fewest at hf
  refine z_meth rfl (plainFor_of_name wpl_X8) (by simp [lg_sl, Value.category, zml, m_X8_fewest]) ?_
  refine z_aload_n 0 dX8_fewest_0 rfl rfl ?_
  refine z_getA dX8_fewest_1 zc8 (by decide) wf_X8_42 hf fun x1 hf => ?_
  refine z_aload_n 0 dX8_fewest_4 rfl rfl ?_
  refine z_iload_n 1 dX8_fewest_5 rfl rfl ?_
  refine z_cV_ta (d' := d - 1) (As := [.int p1]) (rest := [.ref x1]) dX8_fewest_6 lk_X8_119 rfl hf (fun w1 e1 => zc_X8_existing (by omega) e1) (by omega) rfl rfl (Nat.le_of_ble_eq_true rfl) (fun y2 x3 hf => ?_) (fun y2 k4 hf => ?_)
  · refine z_aload_n 0 dX8_fewest_9 rfl rfl ?_
    refine z_getA dX8_fewest_10 zc8 (by decide) wf_X8_28 hf fun x5 hf => ?_
    refine z_getI dX8_fewest_13 zc0 (by decide) wf_X8_86 hf fun x6 hf => ?_
    refine z_cV_v (d' := d - 1) (As := [.ref x3, .int x6]) (rest := []) dX8_fewest_16 lk_X8_176 rfl hf (fun w1 e1 => zc_X3_study (by omega) e1) (by omega) rfl rfl (Nat.le_of_ble_eq_true rfl) fun y7 hf => ?_
    refine z_aload_n 0 dX8_fewest_19 rfl rfl ?_
    refine z_getA dX8_fewest_20 zc8 (by decide) wf_X8_42 hf fun x8 hf => ?_
    refine z_aload_n 0 dX8_fewest_23 rfl rfl ?_
    refine z_getA dX8_fewest_24 zc8 (by decide) wf_X8_28 hf fun x9 hf => ?_
    refine z_cV_i (d' := d - 1) (As := []) (rest := [.ref x8]) dX8_fewest_27 lk_X8_189 rfl hf (fun w1 e1 => zc_X0_winningElement (by omega) e1) (by omega) rfl rfl (Nat.le_of_ble_eq_true rfl) fun y10 hf => ?_
    refine z_cV_i (d' := d - 1) (As := [.int y10.1]) (rest := []) dX8_fewest_30 lk_X8_192 rfl hf (fun w1 e1 => zc_X3_fewestCardsFor (by omega) e1) (by omega) rfl rfl (Nat.le_of_ble_eq_true rfl) fun y11 hf => ?_
    exact z_iret dX8_fewest_33 rfl (by cases hf; rfl)
  · exact zx_out rfl (by cases hf; rfl)
set_option maxRecDepth 4000 in
theorem zc_L_fewest {Γ : zG} {N d : Nat} (hd : 15 ≤ d) {p1 : Nat} {p2 : Int32} {p3 : Nat} {h : zH} {w : Int32 × zH} (hf : f_L_fewest N p1 p2 p3 h = some w) : Zm Γ m_L_fewest d [.ref p1, .int p2, .ref p3] h (zoI w) := by
  unfold f_L_fewest at hf
  refine z_methH (by decide) (by decide +kernel) (by simp [lg_sl, Value.category, zml, m_L_fewest]) ?_
  refine z_aload_n 2 dL_fewest_0 rfl rfl ?_
  refine z_iconst (0 : Int32) dL_fewest_1 (by decide) ?_
  refine z_aload_n 0 dL_fewest_2 rfl rfl ?_
  refine z_iload_n 1 dL_fewest_3 rfl rfl ?_
  refine z_cV_ti (d' := d - 1) (As := [.int p2]) (rest := [.int (0 : Int32), .ref p3]) dL_fewest_4 lk_L_55 rfl hf (fun w1 e1 => zc_X8_fewest (by omega) e1) (by omega) rfl rfl (Nat.le_of_ble_eq_true rfl) (fun y1 x2 hf => ?_) (fun y1 k3 hf => ?_)
  · refine z_i2l dL_fewest_7 ?_
    refine z_lastore dL_fewest_8 hf fun h4 hf => ?_
    refine z_goto 15 dL_fewest_9 (by decide) ?_
    refine z_iconst (0 : Int32) dL_fewest_15 (by decide) ?_
    exact z_iret dL_fewest_16 rfl (by cases hf; rfl)
  · by_cases e0 : k3 = 2
    · rw [if_pos e0] at hf
      subst e0
      refine zx_catch (by decide) [] (0, 9, 12, 22) [] rfl (fun z hz => absurd hz List.not_mem_nil) (by decide) (by decide) wc_L_22 wct_2 fun q5 => ?_
      refine z_astore_n [(3, .ref q5), (0, .ref p1), (1, .int p2), (2, .ref p3)] dL_fewest_12 rfl (by decide) rfl ?_
      refine z_iconst (1 : Int32) dL_fewest_13 (by decide) ?_
      exact z_iret dL_fewest_14 rfl (by cases hf; rfl)
    · rw [if_neg e0] at hf
      cases hf
set_option maxRecDepth 4000 in
theorem zl_X9_bits_4 {Γ : zG} {N d : Nat} {h0 : zH} (hd : 10 ≤ d) {v0 : Int32}  {w : Int32 × zH}   : ∀ (n : Nat) (v1 : Int32) (v2 : Int32) (h : zH), f_X9_bits_l4 N v0 n v1 v2 h = some w → Z Γ m_X9_bits d h0 (zoI w) 4 [(0, .int v0), (1, .int v1), (2, .int v2)] [] h := by
  intro n
  induction n with
  | zero => intro v1 v2 h hf; cases hf
  | succ n ih =>
    intro v1 v2 h hf
    rw [f_X9_bits_l4] at hf
    refine z_iload_n 2 dX9_bits_4 rfl rfl ?_
    refine z_bipush (8 : Int32) dX9_bits_5 (by decide) ?_
    refine z_icmp_ge 24 dX9_bits_7 (by decide) hf (fun hf => ?_) (fun hf => ?_)
    · refine z_iload_n 1 dX9_bits_24 rfl rfl ?_
      exact z_iret dX9_bits_25 rfl (by cases hf; rfl)
    · refine z_iload_n 1 dX9_bits_10 rfl rfl ?_
      refine z_iload_n 0 dX9_bits_11 rfl rfl ?_
      refine z_iload_n 2 dX9_bits_12 rfl rfl ?_
      refine z_ishr dX9_bits_13 ?_
      refine z_iconst (1 : Int32) dX9_bits_14 (by decide) ?_
      refine z_iand dX9_bits_15 ?_
      refine z_iadd dX9_bits_16 ?_
      refine z_istore_n [(1, .int (v1 + ((v0 >>> (v2 &&& 31)) &&& (1 : Int32)))), (0, .int v0), (2, .int v2)] dX9_bits_17 rfl (by decide) rfl ?_
      refine z_iinc (v2 + (1 : Int32)) 2 [(2, .int (v2 + (1 : Int32))), (1, .int (v1 + ((v0 >>> (v2 &&& 31)) &&& (1 : Int32)))), (0, .int v0)] dX9_bits_18 rfl rfl (by decide) rfl ?_
      refine z_goto 4 dX9_bits_21 (by decide) ?_
      exact Z.sub [2, 1, 0] rfl (ih (v1 + ((v0 >>> (v2 &&& 31)) &&& (1 : Int32))) (v2 + (1 : Int32)) h hf)
set_option maxRecDepth 4000 in
theorem zc_X9_bits {Γ : zG} {N d : Nat} (hd : 10 ≤ d) {p1 : Int32} {h : zH} {w : Int32 × zH} (hf : f_X9_bits N p1 h = some w) : Zm Γ m_X9_bits d [.int p1] h (zoI w) := by
  unfold f_X9_bits at hf
  refine z_meth rfl (plainFor_of_name wpl_X9) (by simp [lg_sl, Value.category, zml, m_X9_bits]) ?_
  refine z_iconst (0 : Int32) dX9_bits_0 (by decide) ?_
  refine z_istore_n [(1, .int (0 : Int32)), (0, .int p1)] dX9_bits_1 rfl (by decide) rfl ?_
  refine z_iconst (0 : Int32) dX9_bits_2 (by decide) ?_
  refine z_istore_n [(2, .int (0 : Int32)), (1, .int (0 : Int32)), (0, .int p1)] dX9_bits_3 rfl (by decide) rfl ?_
  refine Z.sub [2, 1, 0] rfl (zl_X9_bits_4 hd  N (0 : Int32) (0 : Int32) h hf)
set_option maxRecDepth 4000 in
theorem zl_X9_fewestLaid_19 {Γ : zG} {N d : Nat} {h0 : zH} (hd : 12 ≤ d) {v0 : Nat} {v1 : Int32} {v4 : Int32}  {w : Int32 × zH}   : ∀ (n : Nat) (v3 : Int32) (v5 : Int32) (h : zH), f_X9_fewestLaid_l19 N v0 v1 v4 n v3 v5 h = some w → Z Γ m_X9_fewestLaid d h0 (zoI w) 19 [(0, .ref v0), (1, .int v1), (3, .int v3), (4, .int v4), (5, .int v5)] [] h := by
  intro n
  induction n with
  | zero => intro v3 v5 h hf; cases hf
  | succ n ih =>
    intro v3 v5 h hf
    rw [f_X9_fewestLaid_l19] at hf
    refine z_iload 4 dX9_fewestLaid_19 rfl ?_
    refine z_iconst (1 : Int32) dX9_fewestLaid_21 (by decide) ?_
    refine z_aload_n 0 dX9_fewestLaid_22 rfl rfl ?_
    refine z_iload_n 1 dX9_fewestLaid_23 rfl rfl ?_
    refine z_cV_i (d' := d - 1) (As := [.int v1]) (rest := [.int (1 : Int32), .int v5]) dX9_fewestLaid_24 lk_X9_242 rfl hf (fun w1 e1 => zc_X9_cardsOf (by omega) e1) (by omega) rfl rfl (Nat.le_of_ble_eq_true rfl) fun y5 hf => ?_
    refine z_ishl dX9_fewestLaid_27 ?_
    refine z_icmp_ge 73 dX9_fewestLaid_28 (by decide) hf (fun hf => ?_) (fun hf => ?_)
    · refine z_iload_n 2 dX9_fewestLaid_73 rfl rfl ?_
      exact z_iret dX9_fewestLaid_74 rfl (by cases hf; rfl)
    · refine z_aload_n 0 dX9_fewestLaid_31 rfl rfl ?_
      refine z_getA dX9_fewestLaid_32 zc9 (by decide) wf_X9_39 hf fun x6 hf => ?_
      refine z_bipush (120 : Int32) dX9_fewestLaid_35 (by decide) ?_
      refine z_iload 4 dX9_fewestLaid_37 rfl ?_
      refine z_imul dX9_fewestLaid_39 ?_
      refine z_iload 3 dX9_fewestLaid_40 rfl ?_
      refine z_iadd dX9_fewestLaid_42 ?_
      refine z_baload dX9_fewestLaid_43 hf fun x7 hf => ?_
      refine zjn_elim (P := fun (j67 : Int32 → Int32 → zH → Option (Int32 × zH)) => ∀ (v3 : Int32) (v5 : Int32) (h : zH), j67 v3 v5 h = some w → Z Γ m_X9_fewestLaid d h0 (zoI w) 67 [(0, .ref v0), (1, .int v1), (3, .int v3), (4, .int v4), (5, .int v5)] [] h) hf (fun v3 v5 h hf => ?_) (fun j67 hj67 hf => ?_)
      · refine z_iinc (v5 + (1 : Int32)) 4 [(5, .int (v5 + (1 : Int32))), (0, .ref v0), (1, .int v1), (3, .int v3), (4, .int v4)] dX9_fewestLaid_67 rfl rfl (by decide) rfl ?_
        refine z_goto 19 dX9_fewestLaid_70 (by decide) ?_
        exact Z.sub [1, 2, 3, 4, 0] rfl (ih v3 (v5 + (1 : Int32)) h hf)
      · refine z_if_eq 67 dX9_fewestLaid_44 (by decide) hf (fun hf => ?_) (fun hf => ?_)
        · exact Z.sub [0, 1, 2, 3, 4] rfl (hj67 v3 v5 y5.2 hf)
        · refine z_iload_n 2 dX9_fewestLaid_47 rfl rfl ?_
          refine z_iconst (-1 : Int32) dX9_fewestLaid_48 (by decide) ?_
          refine zjn_elim (P := fun (j61 : Int32 → zH → Option (Int32 × zH)) => ∀ (v5 : Int32) (h : zH), j61 v5 h = some w → Z Γ m_X9_fewestLaid d h0 (zoI w) 61 [(0, .ref v0), (1, .int v1), (4, .int v4), (5, .int v5)] [] h) hf (fun v5 h hf => ?_) (fun j61 hj61 hf => ?_)
          · refine z_iload 3 dX9_fewestLaid_61 rfl ?_
            refine z_cS_i (d' := d - 1) (As := [.int v5]) (rest := []) dX9_fewestLaid_63 lk_X9_245 hf (fun w1 e1 => zc_X9_bits (by omega) e1) (by omega) rfl rfl (Nat.le_of_ble_eq_true rfl) fun y9 hf => ?_
            refine z_istore_n [(3, .int y9.1), (0, .ref v0), (1, .int v1), (4, .int v4), (5, .int v5)] dX9_fewestLaid_66 rfl (by decide) rfl ?_
            exact Z.sub [1, 2, 0, 3, 4] rfl (hj67 y9.1 v5 y9.2 hf)
          · refine z_icmp_eq 61 dX9_fewestLaid_49 (by decide) hf (fun hf => ?_) (fun hf => ?_)
            · exact Z.sub [0, 1, 3, 4] rfl (hj61 v5 y5.2 hf)
            · refine z_iload 4 dX9_fewestLaid_52 rfl ?_
              refine z_cS_i (d' := d - 1) (As := [.int v5]) (rest := []) dX9_fewestLaid_54 lk_X9_245 hf (fun w1 e1 => zc_X9_bits (by omega) e1) (by omega) rfl rfl (Nat.le_of_ble_eq_true rfl) fun y8 hf => ?_
              refine z_iload_n 2 dX9_fewestLaid_57 rfl rfl ?_
              refine z_icmp_ge 67 dX9_fewestLaid_58 (by decide) hf (fun hf => ?_) (fun hf => ?_)
              · exact Z.sub [0, 1, 2, 3, 4] rfl (hj67 v3 v5 y8.2 hf)
              · exact Z.sub [0, 1, 3, 4] rfl (hj61 v5 y8.2 hf)
set_option maxRecDepth 4000 in
theorem zc_X9_fewestLaid {Γ : zG} {N d : Nat} (hd : 12 ≤ d) {a : Nat} {p1 : Int32} {p2 : Int32} {h : zH} {w : Int32 × zH} (hf : f_X9_fewestLaid N a p1 p2 h = some w) : Zm Γ m_X9_fewestLaid d [.ref a, .int p1, .int p2] h (zoI w) := by
  unfold f_X9_fewestLaid at hf
  refine z_meth rfl (plainFor_of_name wpl_X9) (by simp [lg_sl, Value.category, zml, m_X9_fewestLaid]) ?_
  refine z_iconst (-1 : Int32) dX9_fewestLaid_0 (by decide) ?_
  refine z_istore_n [(3, .int (-1 : Int32)), (0, .ref a), (1, .int p1), (2, .int p2)] dX9_fewestLaid_1 rfl (by decide) rfl ?_
  refine z_aload_n 1 dX9_fewestLaid_2 rfl rfl ?_
  refine z_getA dX9_fewestLaid_3 zc9 (by decide) wf_X9_36 hf fun x1 hf => ?_
  refine z_aload_n 1 dX9_fewestLaid_6 rfl rfl ?_
  refine z_getI dX9_fewestLaid_7 zc9 (by decide) wf_X9_233 hf fun x2 hf => ?_
  refine z_cS_i (d' := d - 1) (As := [.int x2]) (rest := [.ref x1]) dX9_fewestLaid_10 lk_X9_54 hf (fun w1 e1 => zc_X9_neutral (by omega) e1) (by omega) rfl rfl (Nat.le_of_ble_eq_true rfl) fun y3 hf => ?_
  refine z_iaload dX9_fewestLaid_13 hf fun x4 hf => ?_
  refine z_istore [(4, .int x4), (3, .int (-1 : Int32)), (0, .ref a), (1, .int p1), (2, .int p2)] dX9_fewestLaid_14 (by decide) rfl ?_
  refine z_iload_n 4 dX9_fewestLaid_16 rfl rfl ?_
  refine z_istore [(5, .int p2), (4, .int x4), (3, .int (-1 : Int32)), (0, .ref a), (1, .int p1), (2, .int p2)] dX9_fewestLaid_17 (by decide) rfl ?_
  refine Z.sub [3, 4, 2, 1, 0] rfl (zl_X9_fewestLaid_19 hd  N (-1 : Int32) p2 y3.2 hf)
set_option maxRecDepth 4000 in
theorem zc_X9_fewestOf {Γ : zG} {N d : Nat} (hd : 14 ≤ d) {a : Nat} {p1 : Int32} {h : zH} {w : Int32 × zH} (hf : f_X9_fewestOf N a p1 h = some w) : Zm Γ m_X9_fewestOf d [.ref a, .int p1] h (zoI w) := by
  unfold f_X9_fewestOf at hf
  refine z_meth rfl (plainFor_of_name wpl_X9) (by simp [lg_sl, Value.category, zml, m_X9_fewestOf]) ?_
  refine z_aload_n 0 dX9_fewestOf_0 rfl rfl ?_
  refine z_iload_n 1 dX9_fewestOf_1 rfl rfl ?_
  refine z_aload_n 0 dX9_fewestOf_2 rfl rfl ?_
  refine z_cV_i (d' := d - 1) (As := []) (rest := [.int p1, .ref a]) dX9_fewestOf_3 lk_X9_263 rfl hf (fun w1 e1 => zc_X9_productNow (by omega) e1) (by omega) rfl rfl (Nat.le_of_ble_eq_true rfl) fun y1 hf => ?_
  refine z_iconst (-1 : Int32) dX9_fewestOf_6 (by decide) ?_
  refine z_cV_v (d' := d - 1) (As := [.int p1, .int y1.1, .int (-1 : Int32)]) (rest := []) dX9_fewestOf_7 lk_X9_272 rfl hf (fun w1 e1 => zc_X9_layFrom (by omega) e1) (by omega) rfl rfl (Nat.le_of_ble_eq_true rfl) fun y2 hf => ?_
  refine z_aload_n 0 dX9_fewestOf_10 rfl rfl ?_
  refine z_iload_n 1 dX9_fewestOf_11 rfl rfl ?_
  refine z_iconst (1 : Int32) dX9_fewestOf_12 (by decide) ?_
  refine z_cV_i (d' := d - 1) (As := [.int p1, .int (1 : Int32)]) (rest := []) dX9_fewestOf_13 lk_X9_279 rfl hf (fun w1 e1 => zc_X9_fewestLaid (by omega) e1) (by omega) rfl rfl (Nat.le_of_ble_eq_true rfl) fun y3 hf => ?_
  exact z_iret dX9_fewestOf_16 rfl (by cases hf; rfl)
set_option maxRecDepth 4000 in
theorem zc_X9_fewest {Γ : zG} {N d : Nat} (hd : 15 ≤ d) {a : Nat} {p1 : Int32} {h : zH} {w : Int32 × zH} (hf : f_X9_fewest N a p1 h = some w) : Zm Γ m_X9_fewest d [.ref a, .int p1] h (zoI w) := by
  unfold f_X9_fewest at hf
  refine z_meth rfl (plainFor_of_name wpl_X9) (by simp [lg_sl, Value.category, zml, m_X9_fewest]) ?_
  refine z_aload_n 0 dX9_fewest_0 rfl rfl ?_
  refine z_iconst (0 : Int32) dX9_fewest_1 (by decide) ?_
  refine z_putB dX9_fewest_2 zc9 (by decide) wf_X9_46 (Or.inl rfl) rfl rfl hf fun h1 hf => ?_
  refine z_aload_n 0 dX9_fewest_5 rfl rfl ?_
  refine z_iload_n 1 dX9_fewest_6 rfl rfl ?_
  refine z_cV_i (d' := d - 1) (As := [.int p1]) (rest := []) dX9_fewest_7 lk_X9_254 rfl hf (fun w1 e1 => zc_X9_noPlayer (by omega) e1) (by omega) rfl rfl (Nat.le_of_ble_eq_true rfl) fun y2 hf => ?_
  refine z_if_eq 17 dX9_fewest_10 (by decide) hf (fun hf => ?_) (fun hf => ?_)
  · refine z_aload_n 0 dX9_fewest_17 rfl rfl ?_
    refine z_iload_n 1 dX9_fewest_18 rfl rfl ?_
    refine z_cV_i (d' := d - 1) (As := [.int p1]) (rest := []) dX9_fewest_19 lk_X9_282 rfl hf (fun w1 e1 => zc_X9_fewestOf (by omega) e1) (by omega) rfl rfl (Nat.le_of_ble_eq_true rfl) fun y3 hf => ?_
    exact z_iret dX9_fewest_22 rfl (by cases hf; rfl)
  · refine z_iconst (0 : Int32) dX9_fewest_13 (by decide) ?_
    refine z_goto 22 dX9_fewest_14 (by decide) ?_
    exact z_iret dX9_fewest_22 rfl (by cases hf; rfl)
set_option maxRecDepth 4000 in
theorem zl_X3_sumOf_5 {Γ : zG} {N d : Nat} {h0 : zH} (hd : 12 ≤ d) {v0 : Nat} {v1 : Int32} {v2 : Nat}  {w : Int32 × zH}   : ∀ (n : Nat) (v3 : Int32) (v4 : Int32) (h : zH), f_X3_sumOf_l5 N v0 v1 v2 n v3 v4 h = some w → Z Γ m_X3_sumOf d h0 (zoI w) 5 [(0, .ref v0), (1, .int v1), (2, .ref v2), (3, .int v3), (4, .int v4)] [] h := by
  intro n
  induction n with
  | zero => intro v3 v4 h hf; cases hf
  | succ n ih =>
    intro v3 v4 h hf
    rw [f_X3_sumOf_l5] at hf
    refine z_iload 4 dX3_sumOf_5 rfl ?_
    refine z_aload_n 0 dX3_sumOf_7 rfl rfl ?_
    refine z_getI dX3_sumOf_8 zc3 (by decide) wf_X3_44 hf fun x1 hf => ?_
    refine z_icmp_ge 42 dX3_sumOf_11 (by decide) hf (fun hf => ?_) (fun hf => ?_)
    · refine z_iload_n 3 dX3_sumOf_42 rfl rfl ?_
      exact z_iret dX3_sumOf_43 rfl (by cases hf; rfl)
    · refine z_iload_n 3 dX3_sumOf_14 rfl rfl ?_
      refine z_iload_n 1 dX3_sumOf_15 rfl rfl ?_
      refine z_iload 4 dX3_sumOf_16 rfl ?_
      refine z_ishr dX3_sumOf_18 ?_
      refine z_iconst (1 : Int32) dX3_sumOf_19 (by decide) ?_
      refine z_iand dX3_sumOf_20 ?_
      refine zjn_elim (P := fun (j34 : Int32 → Int32 → Int32 → zH → Option (Int32 × zH)) => ∀ (v4 : Int32) (s0 : Int32) (s1 : Int32) (h : zH), j34 v4 s0 s1 h = some w → Z Γ m_X3_sumOf d h0 (zoI w) 34 [(0, .ref v0), (1, .int v1), (2, .ref v2), (4, .int v4)] [.int s1, .int s0] h) hf (fun v4 s0 s1 h hf => ?_) (fun j34 hj34 hf => ?_)
      · refine z_iadd dX3_sumOf_34 ?_
        refine z_istore_n [(3, .int (s0 + s1)), (0, .ref v0), (1, .int v1), (2, .ref v2), (4, .int v4)] dX3_sumOf_35 rfl (by decide) rfl ?_
        refine z_iinc (v4 + (1 : Int32)) 4 [(4, .int (v4 + (1 : Int32))), (3, .int (s0 + s1)), (0, .ref v0), (1, .int v1), (2, .ref v2)] dX3_sumOf_36 rfl rfl (by decide) rfl ?_
        refine z_goto 5 dX3_sumOf_39 (by decide) ?_
        exact Z.sub [2, 3, 4, 1, 0] rfl (ih (s0 + s1) (v4 + (1 : Int32)) h hf)
      · refine z_if_eq 33 dX3_sumOf_21 (by decide) hf (fun hf => ?_) (fun hf => ?_)
        · refine z_iconst (0 : Int32) dX3_sumOf_33 (by decide) ?_
          exact Z.sub [0, 1, 2, 4] rfl (hj34 v4 v3 (0 : Int32) h hf)
        · refine z_aload_n 2 dX3_sumOf_24 rfl rfl ?_
          refine z_iload 4 dX3_sumOf_25 rfl ?_
          refine z_cV_i (d' := d - 1) (As := [.int v4]) (rest := [.int v3]) dX3_sumOf_27 lk_X3_77 rfl hf (fun w1 e1 => zc_X6_at (by omega) e1) (by omega) rfl rfl (Nat.le_of_ble_eq_true rfl) fun y2 hf => ?_
          refine z_goto 34 dX3_sumOf_30 (by decide) ?_
          exact Z.sub [0, 1, 2, 4] rfl (hj34 v4 v3 y2.1 y2.2 hf)
set_option maxRecDepth 4000 in
theorem zc_X3_sumOf {Γ : zG} {N d : Nat} (hd : 12 ≤ d) {a : Nat} {p1 : Int32} {p2 : Nat} {h : zH} {w : Int32 × zH} (hf : f_X3_sumOf N a p1 p2 h = some w) : Zm Γ m_X3_sumOf d [.ref a, .int p1, .ref p2] h (zoI w) := by
  unfold f_X3_sumOf at hf
  refine z_meth rfl (plainFor_of_name wpl_X3) (by simp [lg_sl, Value.category, zml, m_X3_sumOf]) ?_
  refine z_iconst (0 : Int32) dX3_sumOf_0 (by decide) ?_
  refine z_istore_n [(3, .int (0 : Int32)), (0, .ref a), (1, .int p1), (2, .ref p2)] dX3_sumOf_1 rfl (by decide) rfl ?_
  refine z_iconst (0 : Int32) dX3_sumOf_2 (by decide) ?_
  refine z_istore [(4, .int (0 : Int32)), (3, .int (0 : Int32)), (0, .ref a), (1, .int p1), (2, .ref p2)] dX3_sumOf_3 (by decide) rfl ?_
  refine Z.sub [2, 3, 4, 1, 0] rfl (zl_X3_sumOf_5 hd  N (0 : Int32) (0 : Int32) h hf)
set_option maxRecDepth 4000 in
theorem zl_X3_smallestSumFor_5 {Γ : zG} {N d : Nat} {h0 : zH} (hd : 13 ≤ d) {v0 : Nat} {v1 : Int32} {v2 : Nat}  {w : Int32 × zH}   : ∀ (n : Nat) (v3 : Int32) (v4 : Int32) (h : zH), f_X3_smallestSumFor_l5 N v0 v1 v2 n v3 v4 h = some w → Z Γ m_X3_smallestSumFor d h0 (zoI w) 5 [(0, .ref v0), (1, .int v1), (2, .ref v2), (3, .int v3), (4, .int v4)] [] h := by
  intro n
  induction n with
  | zero => intro v3 v4 h hf; cases hf
  | succ n ih =>
    intro v3 v4 h hf
    rw [f_X3_smallestSumFor_l5] at hf
    refine z_iload 4 dX3_smallestSumFor_5 rfl ?_
    refine z_aload_n 0 dX3_smallestSumFor_7 rfl rfl ?_
    refine z_getI dX3_smallestSumFor_8 zc3 (by decide) wf_X3_40 hf fun x1 hf => ?_
    refine z_icmp_ge 56 dX3_smallestSumFor_11 (by decide) hf (fun hf => ?_) (fun hf => ?_)
    · refine z_iload_n 3 dX3_smallestSumFor_56 rfl rfl ?_
      exact z_iret dX3_smallestSumFor_57 rfl (by cases hf; rfl)
    · refine z_aload_n 0 dX3_smallestSumFor_14 rfl rfl ?_
      refine z_iload 4 dX3_smallestSumFor_15 rfl ?_
      refine z_iload_n 1 dX3_smallestSumFor_17 rfl rfl ?_
      refine z_cV_i (d' := d - 1) (As := [.int v4, .int v1]) (rest := []) dX3_smallestSumFor_18 lk_X3_100 rfl hf (fun w1 e1 => zc_X3_contains (by omega) e1) (by omega) rfl rfl (Nat.le_of_ble_eq_true rfl) fun y2 hf => ?_
      refine zjn_elim (P := fun (j50 : Int32 → Int32 → zH → Option (Int32 × zH)) => ∀ (v3 : Int32) (v4 : Int32) (h : zH), j50 v3 v4 h = some w → Z Γ m_X3_smallestSumFor d h0 (zoI w) 50 [(0, .ref v0), (1, .int v1), (2, .ref v2), (3, .int v3), (4, .int v4)] [] h) hf (fun v3 v4 h hf => ?_) (fun j50 hj50 hf => ?_)
      · refine z_iinc (v4 + (1 : Int32)) 4 [(4, .int (v4 + (1 : Int32))), (0, .ref v0), (1, .int v1), (2, .ref v2), (3, .int v3)] dX3_smallestSumFor_50 rfl rfl (by decide) rfl ?_
        refine z_goto 5 dX3_smallestSumFor_53 (by decide) ?_
        exact Z.sub [1, 2, 3, 4, 0] rfl (ih v3 (v4 + (1 : Int32)) h hf)
      · refine z_if_eq 50 dX3_smallestSumFor_21 (by decide) hf (fun hf => ?_) (fun hf => ?_)
        · exact Z.sub [0, 1, 2, 3, 4] rfl (hj50 v3 v4 y2.2 hf)
        · refine z_aload_n 0 dX3_smallestSumFor_24 rfl rfl ?_
          refine z_iload 4 dX3_smallestSumFor_25 rfl ?_
          refine z_aload_n 2 dX3_smallestSumFor_27 rfl rfl ?_
          refine z_cV_i (d' := d - 1) (As := [.int v4, .ref v2]) (rest := []) dX3_smallestSumFor_28 lk_X3_116 rfl hf (fun w1 e1 => zc_X3_sumOf (by omega) e1) (by omega) rfl rfl (Nat.le_of_ble_eq_true rfl) fun y3 hf => ?_
          refine z_istore [(5, .int y3.1), (0, .ref v0), (1, .int v1), (2, .ref v2), (3, .int v3), (4, .int v4)] dX3_smallestSumFor_31 (by decide) rfl ?_
          refine z_iload_n 4 dX3_smallestSumFor_33 rfl rfl ?_
          refine z_iconst (-1 : Int32) dX3_smallestSumFor_34 (by decide) ?_
          refine zjn_elim (P := fun (j49 : Int32 → Int32 → zH → Option (Int32 × zH)) => ∀ (v4 : Int32) (s0 : Int32) (h : zH), j49 v4 s0 h = some w → Z Γ m_X3_smallestSumFor d h0 (zoI w) 49 [(0, .ref v0), (1, .int v1), (2, .ref v2), (4, .int v4)] [.int s0] h) hf (fun v4 s0 h hf => ?_) (fun j49 hj49 hf => ?_)
          · refine z_istore_n [(3, .int s0), (0, .ref v0), (1, .int v1), (2, .ref v2), (4, .int v4)] dX3_smallestSumFor_49 rfl (by decide) rfl ?_
            exact Z.sub [1, 2, 3, 0, 4] rfl (hj50 s0 v4 h hf)
          · refine z_icmp_ne 43 dX3_smallestSumFor_35 (by decide) hf (fun hf => ?_) (fun hf => ?_)
            · refine z_iload 0 dX3_smallestSumFor_38 rfl ?_
              refine z_goto 49 dX3_smallestSumFor_40 (by decide) ?_
              exact Z.sub [1, 2, 3, 5] rfl (hj49 v4 y3.1 y3.2 hf)
            · refine z_iload_n 4 dX3_smallestSumFor_43 rfl rfl ?_
              refine z_iload 0 dX3_smallestSumFor_44 rfl ?_
              refine z_cS_i (d' := d - 1) (As := [.int v3, .int y3.1]) (rest := []) dX3_smallestSumFor_46 lk_X3_65 hf (fun w1 e1 => zc_J9_min_7cf53 (by omega) e1) (by omega) rfl rfl (Nat.le_of_ble_eq_true rfl) fun y4 hf => ?_
              exact Z.sub [1, 2, 3, 5] rfl (hj49 v4 y4.1 y4.2 hf)
set_option maxRecDepth 4000 in
theorem zc_X3_smallestSumFor {Γ : zG} {N d : Nat} (hd : 13 ≤ d) {a : Nat} {p1 : Int32} {p2 : Nat} {h : zH} {w : Int32 × zH} (hf : f_X3_smallestSumFor N a p1 p2 h = some w) : Zm Γ m_X3_smallestSumFor d [.ref a, .int p1, .ref p2] h (zoI w) := by
  unfold f_X3_smallestSumFor at hf
  refine z_meth rfl (plainFor_of_name wpl_X3) (by simp [lg_sl, Value.category, zml, m_X3_smallestSumFor]) ?_
  refine z_iconst (-1 : Int32) dX3_smallestSumFor_0 (by decide) ?_
  refine z_istore_n [(3, .int (-1 : Int32)), (0, .ref a), (1, .int p1), (2, .ref p2)] dX3_smallestSumFor_1 rfl (by decide) rfl ?_
  refine z_iconst (1 : Int32) dX3_smallestSumFor_2 (by decide) ?_
  refine z_istore [(4, .int (1 : Int32)), (3, .int (-1 : Int32)), (0, .ref a), (1, .int p1), (2, .ref p2)] dX3_smallestSumFor_3 (by decide) rfl ?_
  refine Z.sub [2, 3, 4, 1, 0] rfl (zl_X3_smallestSumFor_5 hd  N (-1 : Int32) (1 : Int32) h hf)
set_option maxRecDepth 4000 in
theorem zc_X8_cheapest {Γ : zG} {N d : Nat} (hd : 14 ≤ d) {a : Nat} {p1 : Int32} {h : zH} {w : (Int32 ⊕ Nat) × zH} (hf : f_X8_cheapest N a p1 h = some w) : Zm Γ m_X8_cheapest d [.ref a, .int p1] h (zoTI w) := by
  unfold f_X8_cheapest at hf
  refine z_meth rfl (plainFor_of_name wpl_X8) (by simp [lg_sl, Value.category, zml, m_X8_cheapest]) ?_
  refine z_aload_n 0 dX8_cheapest_0 rfl rfl ?_
  refine z_iload_n 1 dX8_cheapest_1 rfl rfl ?_
  refine z_cV_ta (d' := d - 1) (As := [.int p1]) (rest := []) dX8_cheapest_2 lk_X8_119 rfl hf (fun w1 e1 => zc_X8_existing (by omega) e1) (by omega) rfl rfl (Nat.le_of_ble_eq_true rfl) (fun y1 x2 hf => ?_) (fun y1 k3 hf => ?_)
  · refine z_astore_n [(2, .ref x2), (0, .ref a), (1, .int p1)] dX8_cheapest_5 rfl (by decide) rfl ?_
    refine z_aload_n 1 dX8_cheapest_6 rfl rfl ?_
    refine z_getA dX8_cheapest_7 zc8 (by decide) wf_X8_42 hf fun x4 hf => ?_
    refine z_aload_n 0 dX8_cheapest_10 rfl rfl ?_
    refine z_aload_n 1 dX8_cheapest_11 rfl rfl ?_
    refine z_getA dX8_cheapest_12 zc8 (by decide) wf_X8_28 hf fun x5 hf => ?_
    refine z_getI dX8_cheapest_15 zc0 (by decide) wf_X8_86 hf fun x6 hf => ?_
    refine z_cV_v (d' := d - 1) (As := [.ref x2, .int x6]) (rest := []) dX8_cheapest_18 lk_X8_176 rfl hf (fun w1 e1 => zc_X3_study (by omega) e1) (by omega) rfl rfl (Nat.le_of_ble_eq_true rfl) fun y7 hf => ?_
    refine z_aload_n 1 dX8_cheapest_21 rfl rfl ?_
    refine z_getA dX8_cheapest_22 zc8 (by decide) wf_X8_42 hf fun x8 hf => ?_
    refine z_aload_n 1 dX8_cheapest_25 rfl rfl ?_
    refine z_getA dX8_cheapest_26 zc8 (by decide) wf_X8_28 hf fun x9 hf => ?_
    refine z_cV_i (d' := d - 1) (As := []) (rest := [.ref x8]) dX8_cheapest_29 lk_X8_189 rfl hf (fun w1 e1 => zc_X0_winningElement (by omega) e1) (by omega) rfl rfl (Nat.le_of_ble_eq_true rfl) fun y10 hf => ?_
    refine z_aload_n 0 dX8_cheapest_32 rfl rfl ?_
    refine z_getA dX8_cheapest_33 zc1 (by decide) wf_X8_147 hf fun x11 hf => ?_
    refine z_cV_i (d' := d - 1) (As := [.int y10.1, .ref x11]) (rest := []) dX8_cheapest_36 lk_X8_195 rfl hf (fun w1 e1 => zc_X3_smallestSumFor (by omega) e1) (by omega) rfl rfl (Nat.le_of_ble_eq_true rfl) fun y12 hf => ?_
    exact z_iret dX8_cheapest_39 rfl (by cases hf; rfl)
  · exact zx_out rfl (by cases hf; rfl)
set_option maxRecDepth 4000 in
theorem zc_L_cheapest {Γ : zG} {N d : Nat} (hd : 15 ≤ d) {p1 : Nat} {p2 : Int32} {p3 : Nat} {h : zH} {w : Int32 × zH} (hf : f_L_cheapest N p1 p2 p3 h = some w) : Zm Γ m_L_cheapest d [.ref p1, .int p2, .ref p3] h (zoI w) := by
  unfold f_L_cheapest at hf
  refine z_methH (by decide) (by decide +kernel) (by simp [lg_sl, Value.category, zml, m_L_cheapest]) ?_
  refine z_aload_n 2 dL_cheapest_0 rfl rfl ?_
  refine z_iconst (0 : Int32) dL_cheapest_1 (by decide) ?_
  refine z_aload_n 0 dL_cheapest_2 rfl rfl ?_
  refine z_iload_n 1 dL_cheapest_3 rfl rfl ?_
  refine z_cV_ti (d' := d - 1) (As := [.int p2]) (rest := [.int (0 : Int32), .ref p3]) dL_cheapest_4 lk_L_58 rfl hf (fun w1 e1 => zc_X8_cheapest (by omega) e1) (by omega) rfl rfl (Nat.le_of_ble_eq_true rfl) (fun y1 x2 hf => ?_) (fun y1 k3 hf => ?_)
  · refine z_i2l dL_cheapest_7 ?_
    refine z_lastore dL_cheapest_8 hf fun h4 hf => ?_
    refine z_goto 15 dL_cheapest_9 (by decide) ?_
    refine z_iconst (0 : Int32) dL_cheapest_15 (by decide) ?_
    exact z_iret dL_cheapest_16 rfl (by cases hf; rfl)
  · by_cases e0 : k3 = 2
    · rw [if_pos e0] at hf
      subst e0
      refine zx_catch (by decide) [] (0, 9, 12, 22) [] rfl (fun z hz => absurd hz List.not_mem_nil) (by decide) (by decide) wc_L_22 wct_2 fun q5 => ?_
      refine z_astore_n [(3, .ref q5), (0, .ref p1), (1, .int p2), (2, .ref p3)] dL_cheapest_12 rfl (by decide) rfl ?_
      refine z_iconst (1 : Int32) dL_cheapest_13 (by decide) ?_
      exact z_iret dL_cheapest_14 rfl (by cases hf; rfl)
    · rw [if_neg e0] at hf
      cases hf
set_option maxRecDepth 4000 in
theorem zl_X9_cheapest_74 {Γ : zG} {N d : Nat} {h0 : zH} (hd : 14 ≤ d) {v0 : Nat} {v1 : Int32} {v2 : Int32} {v3 : Int32} {k1 : Int32 → zH → Option (Int32 × zH)} {w : Int32 × zH}  (hk1 : ∀ (v4 : Int32) (h : zH), k1 v4 h = some w → Z Γ m_X9_cheapest d h0 (zoI w) 109 [(0, .ref v0), (1, .int v1), (2, .int v2), (3, .int v3), (4, .int v4)] [] h) : ∀ (n : Nat) (v4 : Int32) (v5 : Int32) (h : zH), f_X9_cheapest_l74 N v0 v1 v2 v3 k1 n v4 v5 h = some w → Z Γ m_X9_cheapest d h0 (zoI w) 74 [(0, .ref v0), (1, .int v1), (2, .int v2), (3, .int v3), (4, .int v4), (5, .int v5)] [] h := by
  intro n
  induction n with
  | zero => intro v4 v5 h hf; cases hf
  | succ n ih =>
    intro v4 v5 h hf
    rw [f_X9_cheapest_l74] at hf
    refine z_iload 5 dX9_cheapest_74 rfl ?_
    refine z_aload_n 0 dX9_cheapest_76 rfl rfl ?_
    refine z_iload_n 1 dX9_cheapest_77 rfl rfl ?_
    refine z_cV_i (d' := d - 1) (As := [.int v1]) (rest := [.int v5]) dX9_cheapest_78 lk_X9_242 rfl hf (fun w1 e1 => zc_X9_cardsOf (by omega) e1) (by omega) rfl rfl (Nat.le_of_ble_eq_true rfl) fun y12 hf => ?_
    refine z_icmp_ge 109 dX9_cheapest_81 (by decide) hf (fun hf => ?_) (fun hf => ?_)
    · exact Z.sub [0, 1, 2, 3, 4] rfl (hk1 v4 y12.2 hf)
    · refine z_iload 4 dX9_cheapest_84 rfl ?_
      refine z_iload_n 3 dX9_cheapest_86 rfl rfl ?_
      refine z_iload 5 dX9_cheapest_87 rfl ?_
      refine z_ishr dX9_cheapest_89 ?_
      refine z_iconst (1 : Int32) dX9_cheapest_90 (by decide) ?_
      refine z_iand dX9_cheapest_91 ?_
      refine z_aload_n 0 dX9_cheapest_92 rfl rfl ?_
      refine z_iload_n 1 dX9_cheapest_93 rfl rfl ?_
      refine z_iload 5 dX9_cheapest_94 rfl ?_
      refine z_cV_i (d' := d - 1) (As := [.int v1, .int v5]) (rest := [.int ((v3 >>> (v5 &&& 31)) &&& (1 : Int32)), .int v4]) dX9_cheapest_96 lk_X9_218 rfl hf (fun w1 e1 => zc_X9_baseOf (by omega) e1) (by omega) rfl rfl (Nat.le_of_ble_eq_true rfl) fun y13 hf => ?_
      refine z_imul dX9_cheapest_99 ?_
      refine z_iadd dX9_cheapest_100 ?_
      refine z_istore [(4, .int (v4 + (((v3 >>> (v5 &&& 31)) &&& (1 : Int32)) * y13.1))), (0, .ref v0), (1, .int v1), (2, .int v2), (3, .int v3), (5, .int v5)] dX9_cheapest_101 (by decide) rfl ?_
      refine z_iinc (v5 + (1 : Int32)) 5 [(5, .int (v5 + (1 : Int32))), (4, .int (v4 + (((v3 >>> (v5 &&& 31)) &&& (1 : Int32)) * y13.1))), (0, .ref v0), (1, .int v1), (2, .int v2), (3, .int v3)] dX9_cheapest_103 rfl rfl (by decide) rfl ?_
      refine z_goto 74 dX9_cheapest_106 (by decide) ?_
      exact Z.sub [2, 3, 4, 5, 1, 0] rfl (ih (v4 + (((v3 >>> (v5 &&& 31)) &&& (1 : Int32)) * y13.1)) (v5 + (1 : Int32)) y13.2 hf)
set_option maxRecDepth 4000 in
theorem zl_X9_cheapest_29 {Γ : zG} {N d : Nat} {h0 : zH} (hd : 14 ≤ d) {v0 : Nat} {v1 : Int32}  {w : Int32 × zH}   : ∀ (n : Nat) (v2 : Int32) (v3 : Int32) (h : zH), f_X9_cheapest_l29 N v0 v1 n v2 v3 h = some w → Z Γ m_X9_cheapest d h0 (zoI w) 29 [(0, .ref v0), (1, .int v1), (2, .int v2), (3, .int v3)] [] h := by
  intro n
  induction n with
  | zero => intro v2 v3 h hf; cases hf
  | succ n ih =>
    intro v2 v3 h hf
    rw [f_X9_cheapest_l29] at hf
    refine z_iload_n 3 dX9_cheapest_29 rfl rfl ?_
    refine z_iconst (1 : Int32) dX9_cheapest_30 (by decide) ?_
    refine z_aload_n 0 dX9_cheapest_31 rfl rfl ?_
    refine z_iload_n 1 dX9_cheapest_32 rfl rfl ?_
    refine z_cV_i (d' := d - 1) (As := [.int v1]) (rest := [.int (1 : Int32), .int v3]) dX9_cheapest_33 lk_X9_242 rfl hf (fun w1 e1 => zc_X9_cardsOf (by omega) e1) (by omega) rfl rfl (Nat.le_of_ble_eq_true rfl) fun y5 hf => ?_
    refine z_ishl dX9_cheapest_36 ?_
    refine z_icmp_ge 132 dX9_cheapest_37 (by decide) hf (fun hf => ?_) (fun hf => ?_)
    · refine z_iload_n 2 dX9_cheapest_132 rfl rfl ?_
      exact z_iret dX9_cheapest_133 rfl (by cases hf; rfl)
    · refine z_aload_n 0 dX9_cheapest_40 rfl rfl ?_
      refine z_getA dX9_cheapest_41 zc9 (by decide) wf_X9_39 hf fun x6 hf => ?_
      refine z_bipush (120 : Int32) dX9_cheapest_44 (by decide) ?_
      refine z_iload_n 3 dX9_cheapest_46 rfl rfl ?_
      refine z_imul dX9_cheapest_47 ?_
      refine z_aload_n 0 dX9_cheapest_48 rfl rfl ?_
      refine z_getA dX9_cheapest_49 zc9 (by decide) wf_X9_36 hf fun x7 hf => ?_
      refine z_aload_n 0 dX9_cheapest_52 rfl rfl ?_
      refine z_getI dX9_cheapest_53 zc9 (by decide) wf_X9_233 hf fun x8 hf => ?_
      refine z_cS_i (d' := d - 1) (As := [.int x8]) (rest := [.ref x7, .int ((120 : Int32) * v3), .ref x6]) dX9_cheapest_56 lk_X9_54 hf (fun w1 e1 => zc_X9_neutral (by omega) e1) (by omega) rfl rfl (Nat.le_of_ble_eq_true rfl) fun y9 hf => ?_
      refine z_iaload dX9_cheapest_59 hf fun x10 hf => ?_
      refine z_iadd dX9_cheapest_60 ?_
      refine z_baload dX9_cheapest_61 hf fun x11 hf => ?_
      refine zjn_elim (P := fun (j126 : Int32 → Int32 → zH → Option (Int32 × zH)) => ∀ (v2 : Int32) (v3 : Int32) (h : zH), j126 v2 v3 h = some w → Z Γ m_X9_cheapest d h0 (zoI w) 126 [(0, .ref v0), (1, .int v1), (2, .int v2), (3, .int v3)] [] h) hf (fun v2 v3 h hf => ?_) (fun j126 hj126 hf => ?_)
      · refine z_iinc (v3 + (1 : Int32)) 3 [(3, .int (v3 + (1 : Int32))), (0, .ref v0), (1, .int v1), (2, .int v2)] dX9_cheapest_126 rfl rfl (by decide) rfl ?_
        refine z_goto 29 dX9_cheapest_129 (by decide) ?_
        exact Z.sub [1, 2, 3, 0] rfl (ih v2 (v3 + (1 : Int32)) h hf)
      · refine z_if_ne 68 dX9_cheapest_62 (by decide) hf (fun hf => ?_) (fun hf => ?_)
        · refine z_goto 126 dX9_cheapest_65 (by decide) ?_
          exact Z.sub [0, 1, 2, 3] rfl (hj126 v2 v3 y9.2 hf)
        · refine z_iconst (0 : Int32) dX9_cheapest_68 (by decide) ?_
          refine z_istore [(4, .int (0 : Int32)), (0, .ref v0), (1, .int v1), (2, .int v2), (3, .int v3)] dX9_cheapest_69 (by decide) rfl ?_
          refine z_iconst (0 : Int32) dX9_cheapest_71 (by decide) ?_
          refine z_istore [(5, .int (0 : Int32)), (4, .int (0 : Int32)), (0, .ref v0), (1, .int v1), (2, .int v2), (3, .int v3)] dX9_cheapest_72 (by decide) rfl ?_
          refine Z.sub [2, 3, 4, 5, 1, 0] rfl (zl_X9_cheapest_74 hd (fun u14 h15 hf => ?_) N (0 : Int32) (0 : Int32) y9.2 hf)
          · refine z_iload_n 2 dX9_cheapest_109 rfl rfl ?_
            refine z_iconst (-1 : Int32) dX9_cheapest_110 (by decide) ?_
            refine zjn_elim (P := fun (j125 : Int32 → Int32 → zH → Option (Int32 × zH)) => ∀ (v3 : Int32) (s0 : Int32) (h : zH), j125 v3 s0 h = some w → Z Γ m_X9_cheapest d h0 (zoI w) 125 [(0, .ref v0), (1, .int v1), (3, .int v3)] [.int s0] h) hf (fun v3 s0 h hf => ?_) (fun j125 hj125 hf => ?_)
            · refine z_istore_n [(2, .int s0), (0, .ref v0), (1, .int v1), (3, .int v3)] dX9_cheapest_125 rfl (by decide) rfl ?_
              exact Z.sub [1, 2, 0, 3] rfl (hj126 s0 v3 h hf)
            · refine z_icmp_ne 119 dX9_cheapest_111 (by decide) hf (fun hf => ?_) (fun hf => ?_)
              · refine z_iload 4 dX9_cheapest_114 rfl ?_
                refine z_goto 125 dX9_cheapest_116 (by decide) ?_
                exact Z.sub [0, 1, 3] rfl (hj125 v3 u14 h15 hf)
              · refine z_iload_n 2 dX9_cheapest_119 rfl rfl ?_
                refine z_iload 4 dX9_cheapest_120 rfl ?_
                refine z_cS_i (d' := d - 1) (As := [.int v2, .int u14]) (rest := []) dX9_cheapest_122 lk_X9_112 hf (fun w1 e1 => zc_X9_min (by omega) e1) (by omega) rfl rfl (Nat.le_of_ble_eq_true rfl) fun y16 hf => ?_
                exact Z.sub [0, 1, 3] rfl (hj125 v3 y16.1 y16.2 hf)
set_option maxRecDepth 4000 in
theorem zc_X9_cheapest {Γ : zG} {N d : Nat} (hd : 14 ≤ d) {a : Nat} {p1 : Int32} {h : zH} {w : Int32 × zH} (hf : f_X9_cheapest N a p1 h = some w) : Zm Γ m_X9_cheapest d [.ref a, .int p1] h (zoI w) := by
  unfold f_X9_cheapest at hf
  refine z_meth rfl (plainFor_of_name wpl_X9) (by simp [lg_sl, Value.category, zml, m_X9_cheapest]) ?_
  refine z_aload_n 0 dX9_cheapest_0 rfl rfl ?_
  refine z_iconst (0 : Int32) dX9_cheapest_1 (by decide) ?_
  refine z_putB dX9_cheapest_2 zc9 (by decide) wf_X9_46 (Or.inl rfl) rfl rfl hf fun h1 hf => ?_
  refine z_aload_n 0 dX9_cheapest_5 rfl rfl ?_
  refine z_iload_n 1 dX9_cheapest_6 rfl rfl ?_
  refine z_cV_i (d' := d - 1) (As := [.int p1]) (rest := []) dX9_cheapest_7 lk_X9_254 rfl hf (fun w1 e1 => zc_X9_noPlayer (by omega) e1) (by omega) rfl rfl (Nat.le_of_ble_eq_true rfl) fun y2 hf => ?_
  refine z_if_eq 15 dX9_cheapest_10 (by decide) hf (fun hf => ?_) (fun hf => ?_)
  · refine z_aload_n 0 dX9_cheapest_15 rfl rfl ?_
    refine z_iload_n 1 dX9_cheapest_16 rfl rfl ?_
    refine z_aload_n 0 dX9_cheapest_17 rfl rfl ?_
    refine z_cV_i (d' := d - 1) (As := []) (rest := [.int p1, .ref a]) dX9_cheapest_18 lk_X9_263 rfl hf (fun w1 e1 => zc_X9_productNow (by omega) e1) (by omega) rfl rfl (Nat.le_of_ble_eq_true rfl) fun y3 hf => ?_
    refine z_iconst (-1 : Int32) dX9_cheapest_21 (by decide) ?_
    refine z_cV_v (d' := d - 1) (As := [.int p1, .int y3.1, .int (-1 : Int32)]) (rest := []) dX9_cheapest_22 lk_X9_272 rfl hf (fun w1 e1 => zc_X9_layFrom (by omega) e1) (by omega) rfl rfl (Nat.le_of_ble_eq_true rfl) fun y4 hf => ?_
    refine z_iconst (-1 : Int32) dX9_cheapest_25 (by decide) ?_
    refine z_istore_n [(2, .int (-1 : Int32)), (0, .ref a), (1, .int p1)] dX9_cheapest_26 rfl (by decide) rfl ?_
    refine z_iconst (1 : Int32) dX9_cheapest_27 (by decide) ?_
    refine z_istore_n [(3, .int (1 : Int32)), (2, .int (-1 : Int32)), (0, .ref a), (1, .int p1)] dX9_cheapest_28 rfl (by decide) rfl ?_
    refine Z.sub [2, 3, 1, 0] rfl (zl_X9_cheapest_29 hd  N (-1 : Int32) (1 : Int32) y4 hf)
  · refine z_iconst (0 : Int32) dX9_cheapest_13 (by decide) ?_
    exact z_iret dX9_cheapest_14 rfl (by cases hf; rfl)
set_option maxRecDepth 4000 in
theorem zl_X3_firstCardFor_49 {Γ : zG} {N d : Nat} {h0 : zH} (hd : 13 ≤ d) {v0 : Nat} {v1 : Int32} {v2 : Nat} {v3 : Int32} {v4 : Int32} {v5 : Int32} {k1 : zH → Option (Int32 × zH)} {w : Int32 × zH}  (hk1 : ∀ (h : zH), k1 h = some w → Z Γ m_X3_firstCardFor d h0 (zoI w) 114 [(0, .ref v0), (1, .int v1), (2, .ref v2), (3, .int v3), (4, .int v4)] [] h) : ∀ (n : Nat) (v6 : Int32) (h : zH), f_X3_firstCardFor_l49 N v0 v1 v2 v3 v4 v5 k1 n v6 h = some w → Z Γ m_X3_firstCardFor d h0 (zoI w) 49 [(0, .ref v0), (1, .int v1), (2, .ref v2), (3, .int v3), (4, .int v4), (5, .int v5), (6, .int v6)] [] h := by
  intro n
  induction n with
  | zero => intro v6 h hf; cases hf
  | succ n ih =>
    intro v6 h hf
    rw [f_X3_firstCardFor_l49] at hf
    refine z_iload 6 dX3_firstCardFor_49 rfl ?_
    refine z_aload_n 0 dX3_firstCardFor_51 rfl rfl ?_
    refine z_getI dX3_firstCardFor_52 zc3 (by decide) wf_X3_40 hf fun x8 hf => ?_
    refine z_icmp_ge 114 dX3_firstCardFor_55 (by decide) hf (fun hf => ?_) (fun hf => ?_)
    · exact Z.sub [0, 1, 2, 3, 4] rfl (hk1 h hf)
    · refine z_iload 6 dX3_firstCardFor_58 rfl ?_
      refine z_cS_i (d' := d - 1) (As := [.int v6]) (rest := []) dX3_firstCardFor_60 lk_X3_112 hf (fun w1 e1 => zc_J6_bitCount_0f7a4 (by omega) e1) (by omega) rfl rfl (Nat.le_of_ble_eq_true rfl) fun y9 hf => ?_
      refine z_iload_n 3 dX3_firstCardFor_63 rfl rfl ?_
      refine zjn_elim (P := fun (j82 : Int32 → Int32 → zH → Option (Int32 × zH)) => ∀ (v6 : Int32) (s0 : Int32) (h : zH), j82 v6 s0 h = some w → Z Γ m_X3_firstCardFor d h0 (zoI w) 82 [(0, .ref v0), (1, .int v1), (2, .ref v2), (3, .int v3), (4, .int v4), (5, .int v5), (6, .int v6)] [.int s0] h) hf (fun v6 s0 h hf => ?_) (fun j82 hj82 hf => ?_)
      · refine z_istore [(7, .int s0), (0, .ref v0), (1, .int v1), (2, .ref v2), (3, .int v3), (4, .int v4), (5, .int v5), (6, .int v6)] dX3_firstCardFor_82 (by decide) rfl ?_
        refine z_iload 0 dX3_firstCardFor_84 rfl ?_
        refine zjn_elim (P := fun (j108 : Int32 → zH → Option (Int32 × zH)) => ∀ (v6 : Int32) (h : zH), j108 v6 h = some w → Z Γ m_X3_firstCardFor d h0 (zoI w) 108 [(0, .ref v0), (1, .int v1), (2, .ref v2), (3, .int v3), (4, .int v4), (5, .int v5), (6, .int v6)] [] h) hf (fun v6 h hf => ?_) (fun j108 hj108 hf => ?_)
        · refine z_iinc (v6 + (1 : Int32)) 6 [(6, .int (v6 + (1 : Int32))), (0, .ref v0), (1, .int v1), (2, .ref v2), (3, .int v3), (4, .int v4), (5, .int v5)] dX3_firstCardFor_108 rfl rfl (by decide) rfl ?_
          refine z_goto 49 dX3_firstCardFor_111 (by decide) ?_
          exact Z.sub [1, 2, 3, 4, 5, 6, 0] rfl (ih (v6 + (1 : Int32)) h hf)
        · refine z_if_eq 108 dX3_firstCardFor_86 (by decide) hf (fun hf => ?_) (fun hf => ?_)
          · exact Z.sub [1, 2, 3, 4, 5, 6, 7] rfl (hj108 v6 h hf)
          · refine z_aload_n 1 dX3_firstCardFor_89 rfl rfl ?_
            refine z_iload 7 dX3_firstCardFor_90 rfl ?_
            refine z_iconst (1 : Int32) dX3_firstCardFor_92 (by decide) ?_
            refine z_iload 5 dX3_firstCardFor_93 rfl ?_
            refine z_ishl dX3_firstCardFor_95 ?_
            refine z_ixor dX3_firstCardFor_96 ?_
            refine z_iload 6 dX3_firstCardFor_97 rfl ?_
            refine z_cV_i (d' := d - 1) (As := [.int (v6 ^^^ ((1 : Int32) <<< (v4 &&& 31))), .int v5]) (rest := []) dX3_firstCardFor_99 lk_X3_100 rfl hf (fun w1 e1 => zc_X3_contains (by omega) e1) (by omega) rfl rfl (Nat.le_of_ble_eq_true rfl) fun y10 hf => ?_
            refine z_if_eq 108 dX3_firstCardFor_102 (by decide) hf (fun hf => ?_) (fun hf => ?_)
            · exact Z.sub [1, 2, 3, 4, 5, 6, 7] rfl (hj108 v6 y10.2 hf)
            · refine z_iload 5 dX3_firstCardFor_105 rfl ?_
              exact z_iret dX3_firstCardFor_107 rfl (by cases hf; rfl)
      · refine zjn_elim (P := fun (j81 : Int32 → zH → Option (Int32 × zH)) => ∀ (v6 : Int32) (h : zH), j81 v6 h = some w → Z Γ m_X3_firstCardFor d h0 (zoI w) 81 [(0, .ref v0), (1, .int v1), (2, .ref v2), (3, .int v3), (4, .int v4), (5, .int v5), (6, .int v6)] [] h) hf (fun v6 h hf => ?_) (fun j81 hj81 hf => ?_)
        · refine z_iconst (0 : Int32) dX3_firstCardFor_81 (by decide) ?_
          exact Z.sub [0, 1, 2, 3, 4, 5, 6] rfl (hj82 v6 (0 : Int32) h hf)
        · refine z_icmp_ne 81 dX3_firstCardFor_64 (by decide) hf (fun hf => ?_) (fun hf => ?_)
          · refine z_iload 6 dX3_firstCardFor_67 rfl ?_
            refine z_iload 4 dX3_firstCardFor_69 rfl ?_
            refine z_ishr dX3_firstCardFor_71 ?_
            refine z_iconst (1 : Int32) dX3_firstCardFor_72 (by decide) ?_
            refine z_iand dX3_firstCardFor_73 ?_
            refine z_if_eq 81 dX3_firstCardFor_74 (by decide) hf (fun hf => ?_) (fun hf => ?_)
            · exact Z.sub [0, 1, 2, 3, 4, 5, 6] rfl (hj81 v6 y9.2 hf)
            · refine z_iconst (1 : Int32) dX3_firstCardFor_77 (by decide) ?_
              refine z_goto 82 dX3_firstCardFor_78 (by decide) ?_
              exact Z.sub [0, 1, 2, 3, 4, 5, 6] rfl (hj82 v6 (1 : Int32) y9.2 hf)
          · exact Z.sub [0, 1, 2, 3, 4, 5, 6] rfl (hj81 v6 y9.2 hf)
set_option maxRecDepth 4000 in
theorem zl_X3_firstCardFor_9 {Γ : zG} {N d : Nat} {h0 : zH} (hd : 13 ≤ d) {v0 : Nat} {v1 : Int32} {v2 : Nat} {v3 : Int32}  {w : Int32 × zH}   : ∀ (n : Nat) (v4 : Int32) (h : zH), f_X3_firstCardFor_l9 N v0 v1 v2 v3 n v4 h = some w → Z Γ m_X3_firstCardFor d h0 (zoI w) 9 [(0, .ref v0), (1, .int v1), (2, .ref v2), (3, .int v3), (4, .int v4)] [] h := by
  intro n
  induction n with
  | zero => intro v4 h hf; cases hf
  | succ n ih =>
    intro v4 h hf
    rw [f_X3_firstCardFor_l9] at hf
    refine z_iload 4 dX3_firstCardFor_9 rfl ?_
    refine z_aload_n 0 dX3_firstCardFor_11 rfl rfl ?_
    refine z_getI dX3_firstCardFor_12 zc3 (by decide) wf_X3_44 hf fun x2 hf => ?_
    refine z_icmp_ge 120 dX3_firstCardFor_15 (by decide) hf (fun hf => ?_) (fun hf => ?_)
    · refine z_iconst (-1 : Int32) dX3_firstCardFor_120 (by decide) ?_
      exact z_iret dX3_firstCardFor_121 rfl (by cases hf; rfl)
    · refine z_iload_n 3 dX3_firstCardFor_18 rfl rfl ?_
      refine z_iconst (-1 : Int32) dX3_firstCardFor_19 (by decide) ?_
      refine z_icmp_eq 120 dX3_firstCardFor_20 (by decide) hf (fun hf => ?_) (fun hf => ?_)
      · refine z_iconst (-1 : Int32) dX3_firstCardFor_120 (by decide) ?_
        exact z_iret dX3_firstCardFor_121 rfl (by cases hf; rfl)
      · refine z_aload_n 0 dX3_firstCardFor_23 rfl rfl ?_
        refine z_getA dX3_firstCardFor_24 zc3 (by decide) wf_X3_11 hf fun x3 hf => ?_
        refine z_aload_n 0 dX3_firstCardFor_27 rfl rfl ?_
        refine z_getA dX3_firstCardFor_28 zc3 (by decide) wf_X3_11 hf fun x4 hf => ?_
        refine z_aload_n 2 dX3_firstCardFor_31 rfl rfl ?_
        refine z_iload 4 dX3_firstCardFor_32 rfl ?_
        refine z_cV_i (d' := d - 1) (As := [.int v4]) (rest := [.ref x4, .ref x3]) dX3_firstCardFor_34 lk_X3_77 rfl hf (fun w1 e1 => zc_X6_at (by omega) e1) (by omega) rfl rfl (Nat.le_of_ble_eq_true rfl) fun y5 hf => ?_
        refine z_cV_i (d' := d - 1) (As := [.int y5.1]) (rest := [.ref x3]) dX3_firstCardFor_37 lk_X3_123 rfl hf (fun w1 e1 => zc_X2_opposite (by omega) e1) (by omega) rfl rfl (Nat.le_of_ble_eq_true rfl) fun y6 hf => ?_
        refine z_iload_n 1 dX3_firstCardFor_40 rfl rfl ?_
        refine z_cV_i (d' := d - 1) (As := [.int y6.1, .int v1]) (rest := []) dX3_firstCardFor_41 lk_X3_80 rfl hf (fun w1 e1 => zc_X2_times (by omega) e1) (by omega) rfl rfl (Nat.le_of_ble_eq_true rfl) fun y7 hf => ?_
        refine z_istore [(5, .int y7.1), (0, .ref v0), (1, .int v1), (2, .ref v2), (3, .int v3), (4, .int v4)] dX3_firstCardFor_44 (by decide) rfl ?_
        refine z_iconst (1 : Int32) dX3_firstCardFor_46 (by decide) ?_
        refine z_istore [(6, .int (1 : Int32)), (5, .int y7.1), (0, .ref v0), (1, .int v1), (2, .ref v2), (3, .int v3), (4, .int v4)] dX3_firstCardFor_47 (by decide) rfl ?_
        refine Z.sub [2, 3, 4, 5, 6, 1, 0] rfl (zl_X3_firstCardFor_49 hd (fun h11 hf => ?_) N (1 : Int32) y7.2 hf)
        · refine z_iinc (v4 + (1 : Int32)) 4 [(4, .int (v4 + (1 : Int32))), (0, .ref v0), (1, .int v1), (2, .ref v2), (3, .int v3)] dX3_firstCardFor_114 rfl rfl (by decide) rfl ?_
          refine z_goto 9 dX3_firstCardFor_117 (by decide) ?_
          exact Z.sub [1, 2, 3, 4, 0] rfl (ih (v4 + (1 : Int32)) h11 hf)
set_option maxRecDepth 4000 in
theorem zc_X3_firstCardFor {Γ : zG} {N d : Nat} (hd : 13 ≤ d) {a : Nat} {p1 : Int32} {p2 : Nat} {h : zH} {w : Int32 × zH} (hf : f_X3_firstCardFor N a p1 p2 h = some w) : Zm Γ m_X3_firstCardFor d [.ref a, .int p1, .ref p2] h (zoI w) := by
  unfold f_X3_firstCardFor at hf
  refine z_meth rfl (plainFor_of_name wpl_X3) (by simp [lg_sl, Value.category, zml, m_X3_firstCardFor]) ?_
  refine z_aload_n 0 dX3_firstCardFor_0 rfl rfl ?_
  refine z_iload_n 1 dX3_firstCardFor_1 rfl rfl ?_
  refine z_cV_i (d' := d - 1) (As := [.int p1]) (rest := []) dX3_firstCardFor_2 lk_X3_120 rfl hf (fun w1 e1 => zc_X3_fewestCardsFor (by omega) e1) (by omega) rfl rfl (Nat.le_of_ble_eq_true rfl) fun y1 hf => ?_
  refine z_istore_n [(3, .int y1.1), (0, .ref a), (1, .int p1), (2, .ref p2)] dX3_firstCardFor_5 rfl (by decide) rfl ?_
  refine z_iconst (0 : Int32) dX3_firstCardFor_6 (by decide) ?_
  refine z_istore [(4, .int (0 : Int32)), (3, .int y1.1), (0, .ref a), (1, .int p1), (2, .ref p2)] dX3_firstCardFor_7 (by decide) rfl ?_
  refine Z.sub [2, 3, 4, 1, 0] rfl (zl_X3_firstCardFor_9 hd  N (0 : Int32) y1.2 hf)
set_option maxRecDepth 4000 in
theorem zc_X8_opening {Γ : zG} {N d : Nat} (hd : 14 ≤ d) {a : Nat} {p1 : Int32} {h : zH} {w : (Int32 ⊕ Nat) × zH} (hf : f_X8_opening N a p1 h = some w) : Zm Γ m_X8_opening d [.ref a, .int p1] h (zoTI w) := by
  unfold f_X8_opening at hf
  refine z_meth rfl (plainFor_of_name wpl_X8) (by simp [lg_sl, Value.category, zml, m_X8_opening]) ?_
  refine z_aload_n 0 dX8_opening_0 rfl rfl ?_
  refine z_iload_n 1 dX8_opening_1 rfl rfl ?_
  refine z_cV_ta (d' := d - 1) (As := [.int p1]) (rest := []) dX8_opening_2 lk_X8_119 rfl hf (fun w1 e1 => zc_X8_existing (by omega) e1) (by omega) rfl rfl (Nat.le_of_ble_eq_true rfl) (fun y1 x2 hf => ?_) (fun y1 k3 hf => ?_)
  · refine z_astore_n [(2, .ref x2), (0, .ref a), (1, .int p1)] dX8_opening_5 rfl (by decide) rfl ?_
    refine z_aload_n 1 dX8_opening_6 rfl rfl ?_
    refine z_getA dX8_opening_7 zc8 (by decide) wf_X8_42 hf fun x4 hf => ?_
    refine z_aload_n 0 dX8_opening_10 rfl rfl ?_
    refine z_aload_n 1 dX8_opening_11 rfl rfl ?_
    refine z_getA dX8_opening_12 zc8 (by decide) wf_X8_28 hf fun x5 hf => ?_
    refine z_getI dX8_opening_15 zc0 (by decide) wf_X8_86 hf fun x6 hf => ?_
    refine z_cV_v (d' := d - 1) (As := [.ref x2, .int x6]) (rest := []) dX8_opening_18 lk_X8_176 rfl hf (fun w1 e1 => zc_X3_study (by omega) e1) (by omega) rfl rfl (Nat.le_of_ble_eq_true rfl) fun y7 hf => ?_
    refine z_aload_n 1 dX8_opening_21 rfl rfl ?_
    refine z_getA dX8_opening_22 zc8 (by decide) wf_X8_42 hf fun x8 hf => ?_
    refine z_aload_n 1 dX8_opening_25 rfl rfl ?_
    refine z_getA dX8_opening_26 zc8 (by decide) wf_X8_28 hf fun x9 hf => ?_
    refine z_cV_i (d' := d - 1) (As := []) (rest := [.ref x8]) dX8_opening_29 lk_X8_189 rfl hf (fun w1 e1 => zc_X0_winningElement (by omega) e1) (by omega) rfl rfl (Nat.le_of_ble_eq_true rfl) fun y10 hf => ?_
    refine z_aload_n 0 dX8_opening_32 rfl rfl ?_
    refine z_getA dX8_opening_33 zc1 (by decide) wf_X8_128 hf fun x11 hf => ?_
    refine z_cV_i (d' := d - 1) (As := [.int y10.1, .ref x11]) (rest := []) dX8_opening_36 lk_X8_199 rfl hf (fun w1 e1 => zc_X3_firstCardFor (by omega) e1) (by omega) rfl rfl (Nat.le_of_ble_eq_true rfl) fun y12 hf => ?_
    exact z_iret dX8_opening_39 rfl (by cases hf; rfl)
  · exact zx_out rfl (by cases hf; rfl)
set_option maxRecDepth 4000 in
theorem zc_L_opening {Γ : zG} {N d : Nat} (hd : 15 ≤ d) {p1 : Nat} {p2 : Int32} {p3 : Nat} {h : zH} {w : Int32 × zH} (hf : f_L_opening N p1 p2 p3 h = some w) : Zm Γ m_L_opening d [.ref p1, .int p2, .ref p3] h (zoI w) := by
  unfold f_L_opening at hf
  refine z_methH (by decide) (by decide +kernel) (by simp [lg_sl, Value.category, zml, m_L_opening]) ?_
  refine z_aload_n 2 dL_opening_0 rfl rfl ?_
  refine z_iconst (0 : Int32) dL_opening_1 (by decide) ?_
  refine z_aload_n 0 dL_opening_2 rfl rfl ?_
  refine z_iload_n 1 dL_opening_3 rfl rfl ?_
  refine z_cV_ti (d' := d - 1) (As := [.int p2]) (rest := [.int (0 : Int32), .ref p3]) dL_opening_4 lk_L_61 rfl hf (fun w1 e1 => zc_X8_opening (by omega) e1) (by omega) rfl rfl (Nat.le_of_ble_eq_true rfl) (fun y1 x2 hf => ?_) (fun y1 k3 hf => ?_)
  · refine z_i2l dL_opening_7 ?_
    refine z_lastore dL_opening_8 hf fun h4 hf => ?_
    refine z_goto 15 dL_opening_9 (by decide) ?_
    refine z_iconst (0 : Int32) dL_opening_15 (by decide) ?_
    exact z_iret dL_opening_16 rfl (by cases hf; rfl)
  · by_cases e0 : k3 = 2
    · rw [if_pos e0] at hf
      subst e0
      refine zx_catch (by decide) [] (0, 9, 12, 22) [] rfl (fun z hz => absurd hz List.not_mem_nil) (by decide) (by decide) wc_L_22 wct_2 fun q5 => ?_
      refine z_astore_n [(3, .ref q5), (0, .ref p1), (1, .int p2), (2, .ref p3)] dL_opening_12 rfl (by decide) rfl ?_
      refine z_iconst (1 : Int32) dL_opening_13 (by decide) ?_
      exact z_iret dL_opening_14 rfl (by cases hf; rfl)
    · rw [if_neg e0] at hf
      cases hf
set_option maxRecDepth 4000 in
theorem zl_X9_opening_23 {Γ : zG} {N d : Nat} {h0 : zH} (hd : 15 ≤ d) {v0 : Nat} {v1 : Int32} {v2 : Int32}  {w : Int32 × zH}   : ∀ (n : Nat) (v3 : Int32) (h : zH), f_X9_opening_l23 N v0 v1 v2 n v3 h = some w → Z Γ m_X9_opening d h0 (zoI w) 23 [(0, .ref v0), (1, .int v1), (2, .int v2), (3, .int v3)] [] h := by
  intro n
  induction n with
  | zero => intro v3 h hf; cases hf
  | succ n ih =>
    intro v3 h hf
    rw [f_X9_opening_l23] at hf
    refine z_iload_n 3 dX9_opening_23 rfl rfl ?_
    refine z_aload_n 0 dX9_opening_24 rfl rfl ?_
    refine z_iload_n 1 dX9_opening_25 rfl rfl ?_
    refine z_cV_i (d' := d - 1) (As := [.int v1]) (rest := [.int v3]) dX9_opening_26 lk_X9_242 rfl hf (fun w1 e1 => zc_X9_cardsOf (by omega) e1) (by omega) rfl rfl (Nat.le_of_ble_eq_true rfl) fun y4 hf => ?_
    refine z_icmp_ge 82 dX9_opening_29 (by decide) hf (fun hf => ?_) (fun hf => ?_)
    · refine z_iconst (-1 : Int32) dX9_opening_82 (by decide) ?_
      exact z_iret dX9_opening_83 rfl (by cases hf; rfl)
    · refine z_iload_n 2 dX9_opening_32 rfl rfl ?_
      refine z_iconst (-1 : Int32) dX9_opening_33 (by decide) ?_
      refine z_icmp_eq 82 dX9_opening_34 (by decide) hf (fun hf => ?_) (fun hf => ?_)
      · refine z_iconst (-1 : Int32) dX9_opening_82 (by decide) ?_
        exact z_iret dX9_opening_83 rfl (by cases hf; rfl)
      · refine z_aload_n 0 dX9_opening_37 rfl rfl ?_
        refine z_iload_n 1 dX9_opening_38 rfl rfl ?_
        refine z_aload_n 0 dX9_opening_39 rfl rfl ?_
        refine z_cV_i (d' := d - 1) (As := []) (rest := [.int v1, .ref v0]) dX9_opening_40 lk_X9_263 rfl hf (fun w1 e1 => zc_X9_productNow (by omega) e1) (by omega) rfl rfl (Nat.le_of_ble_eq_true rfl) fun y5 hf => ?_
        refine z_aload_n 0 dX9_opening_43 rfl rfl ?_
        refine z_iload_n 1 dX9_opening_44 rfl rfl ?_
        refine z_iload_n 3 dX9_opening_45 rfl rfl ?_
        refine z_cV_i (d' := d - 1) (As := [.int v1, .int v3]) (rest := [.int y5.1, .int v1, .ref v0]) dX9_opening_46 lk_X9_221 rfl hf (fun w1 e1 => zc_X9_elementOf (by omega) e1) (by omega) rfl rfl (Nat.le_of_ble_eq_true rfl) fun y6 hf => ?_
        refine z_aload_n 0 dX9_opening_49 rfl rfl ?_
        refine z_getA dX9_opening_50 zc9 (by decide) wf_X9_17 hf fun x7 hf => ?_
        refine z_iconst (0 : Int32) dX9_opening_53 (by decide) ?_
        refine z_iaload dX9_opening_54 hf fun x8 hf => ?_
        refine z_cS_i (d' := d - 1) (As := [.int y5.1, .int y6.1, .int x8]) (rest := [.int v1, .ref v0]) dX9_opening_55 lk_X9_58 hf (fun w1 e1 => zc_X9_times (by omega) e1) (by omega) rfl rfl (Nat.le_of_ble_eq_true rfl) fun y9 hf => ?_
        refine z_iload_n 3 dX9_opening_58 rfl rfl ?_
        refine z_cV_v (d' := d - 1) (As := [.int v1, .int y9.1, .int v3]) (rest := []) dX9_opening_59 lk_X9_272 rfl hf (fun w1 e1 => zc_X9_layFrom (by omega) e1) (by omega) rfl rfl (Nat.le_of_ble_eq_true rfl) fun y10 hf => ?_
        refine z_aload_n 0 dX9_opening_62 rfl rfl ?_
        refine z_iload_n 1 dX9_opening_63 rfl rfl ?_
        refine z_iconst (0 : Int32) dX9_opening_64 (by decide) ?_
        refine z_cV_i (d' := d - 1) (As := [.int v1, .int (0 : Int32)]) (rest := []) dX9_opening_65 lk_X9_279 rfl hf (fun w1 e1 => zc_X9_fewestLaid (by omega) e1) (by omega) rfl rfl (Nat.le_of_ble_eq_true rfl) fun y11 hf => ?_
        refine z_iload_n 2 dX9_opening_68 rfl rfl ?_
        refine z_iconst (1 : Int32) dX9_opening_69 (by decide) ?_
        refine z_isub dX9_opening_70 ?_
        refine z_icmp_ne 76 dX9_opening_71 (by decide) hf (fun hf => ?_) (fun hf => ?_)
        · refine z_iload_n 3 dX9_opening_74 rfl rfl ?_
          exact z_iret dX9_opening_75 rfl (by cases hf; rfl)
        · refine z_iinc (v3 + (1 : Int32)) 3 [(3, .int (v3 + (1 : Int32))), (0, .ref v0), (1, .int v1), (2, .int v2)] dX9_opening_76 rfl rfl (by decide) rfl ?_
          refine z_goto 23 dX9_opening_79 (by decide) ?_
          exact Z.sub [1, 2, 3, 0] rfl (ih (v3 + (1 : Int32)) y11.2 hf)
set_option maxRecDepth 4000 in
theorem zc_X9_opening {Γ : zG} {N d : Nat} (hd : 15 ≤ d) {a : Nat} {p1 : Int32} {h : zH} {w : Int32 × zH} (hf : f_X9_opening N a p1 h = some w) : Zm Γ m_X9_opening d [.ref a, .int p1] h (zoI w) := by
  unfold f_X9_opening at hf
  refine z_meth rfl (plainFor_of_name wpl_X9) (by simp [lg_sl, Value.category, zml, m_X9_opening]) ?_
  refine z_aload_n 0 dX9_opening_0 rfl rfl ?_
  refine z_iconst (0 : Int32) dX9_opening_1 (by decide) ?_
  refine z_putB dX9_opening_2 zc9 (by decide) wf_X9_46 (Or.inl rfl) rfl rfl hf fun h1 hf => ?_
  refine z_aload_n 0 dX9_opening_5 rfl rfl ?_
  refine z_iload_n 1 dX9_opening_6 rfl rfl ?_
  refine z_cV_i (d' := d - 1) (As := [.int p1]) (rest := []) dX9_opening_7 lk_X9_254 rfl hf (fun w1 e1 => zc_X9_noPlayer (by omega) e1) (by omega) rfl rfl (Nat.le_of_ble_eq_true rfl) fun y2 hf => ?_
  refine z_if_eq 15 dX9_opening_10 (by decide) hf (fun hf => ?_) (fun hf => ?_)
  · refine z_aload_n 0 dX9_opening_15 rfl rfl ?_
    refine z_iload_n 1 dX9_opening_16 rfl rfl ?_
    refine z_cV_i (d' := d - 1) (As := [.int p1]) (rest := []) dX9_opening_17 lk_X9_282 rfl hf (fun w1 e1 => zc_X9_fewestOf (by omega) e1) (by omega) rfl rfl (Nat.le_of_ble_eq_true rfl) fun y3 hf => ?_
    refine z_istore_n [(2, .int y3.1), (0, .ref a), (1, .int p1)] dX9_opening_20 rfl (by decide) rfl ?_
    refine z_iconst (0 : Int32) dX9_opening_21 (by decide) ?_
    refine z_istore_n [(3, .int (0 : Int32)), (2, .int y3.1), (0, .ref a), (1, .int p1)] dX9_opening_22 rfl (by decide) rfl ?_
    refine Z.sub [2, 3, 1, 0] rfl (zl_X9_opening_23 hd  N (0 : Int32) y3.2 hf)
  · refine z_iconst (0 : Int32) dX9_opening_13 (by decide) ?_
    exact z_iret dX9_opening_14 rfl (by cases hf; rfl)

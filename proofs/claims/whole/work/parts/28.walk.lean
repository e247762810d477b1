set_option maxRecDepth 4000 in
theorem zc_X3_contains {Γ : zG} {N d : Nat} (hd : 11 ≤ d) {a : Nat} {p1 : Int32} {p2 : Int32} {h : zH} {w : Int32 × zH} (hf : f_X3_contains N a p1 p2 h = some w) : Zm Γ m_X3_contains d [.ref a, .int p1, .int p2] h (zoI w) := by
  unfold f_X3_contains at hf
  refine z_meth rfl (plainFor_of_name wpl_X3) (by simp [lg_sl, Value.category, zml, m_X3_contains]) ?_
  refine z_aload_n 0 dX3_contains_0 rfl rfl ?_
  refine z_iload_n 1 dX3_contains_1 rfl rfl ?_
  refine z_iload_n 2 dX3_contains_2 rfl rfl ?_
  refine z_cV_i (d' := d - 1) (As := [.int p1, .int p2]) (rest := []) dX3_contains_3 lk_X3_83 rfl hf (fun w1 e1 => zc_X3_hasRoomFor (by omega) e1) (by omega) rfl rfl (Nat.le_of_ble_eq_true rfl) fun y1 hf => ?_
  refine z_if_eq 38 dX3_contains_6 (by decide) hf (fun hf => ?_) (fun hf => ?_)
  · refine z_iconst (0 : Int32) dX3_contains_38 (by decide) ?_
    exact z_zret dX3_contains_39 rfl (Or.inl rfl) (by cases hf; rfl)
  · refine z_aload_n 0 dX3_contains_9 rfl rfl ?_
    refine z_getA dX3_contains_10 zc3 (by decide) wf_X3_19 hf fun x2 hf => ?_
    refine z_iconst (2 : Int32) dX3_contains_13 (by decide) ?_
    refine z_iload_n 1 dX3_contains_14 rfl rfl ?_
    refine z_imul dX3_contains_15 ?_
    refine z_iload_n 2 dX3_contains_16 rfl rfl ?_
    refine z_bipush (64 : Int32) dX3_contains_17 (by decide) ?_
    refine z_idiv dX3_contains_19 hf fun x3 hf => ?_
    refine z_iadd dX3_contains_20 ?_
    refine z_laload dX3_contains_21 hf fun x4 hf => ?_
    refine z_iload_n 2 dX3_contains_22 rfl rfl ?_
    refine z_bipush (64 : Int32) dX3_contains_23 (by decide) ?_
    refine z_irem dX3_contains_25 hf fun x5 hf => ?_
    refine z_lushr dX3_contains_26 ?_
    refine z_lconst (1 : Int64) dX3_contains_27 (by decide) ?_
    refine z_land dX3_contains_28 ?_
    refine z_lconst (0 : Int64) dX3_contains_29 (by decide) ?_
    refine z_lcmp dX3_contains_30 ?_
    refine z_if_eq 38 dX3_contains_31 (by decide) hf (fun hf => ?_) (fun hf => ?_)
    · refine z_iconst (0 : Int32) dX3_contains_38 (by decide) ?_
      exact z_zret dX3_contains_39 rfl (Or.inl rfl) (by cases hf; rfl)
    · refine z_iconst (1 : Int32) dX3_contains_34 (by decide) ?_
      refine z_goto 39 dX3_contains_35 (by decide) ?_
      exact z_zret dX3_contains_39 rfl (Or.inr rfl) (by cases hf; rfl)
set_option maxRecDepth 4000 in
theorem zl_X3_isReached_2 {Γ : zG} {N d : Nat} {h0 : zH} (hd : 12 ≤ d) {v0 : Nat} {v1 : Int32}  {w : Int32 × zH}   : ∀ (n : Nat) (v2 : Int32) (h : zH), f_X3_isReached_l2 N v0 v1 n v2 h = some w → Z Γ m_X3_isReached d h0 (zoI w) 2 [(0, .ref v0), (1, .int v1), (2, .int v2)] [] h := by
  intro n
  induction n with
  | zero => intro v2 h hf; cases hf
  | succ n ih =>
    intro v2 h hf
    rw [f_X3_isReached_l2] at hf
    refine z_iload_n 2 dX3_isReached_2 rfl rfl ?_
    refine z_aload_n 0 dX3_isReached_3 rfl rfl ?_
    refine z_getI dX3_isReached_4 zc3 (by decide) wf_X3_40 hf fun x1 hf => ?_
    refine z_icmp_ge 27 dX3_isReached_7 (by decide) hf (fun hf => ?_) (fun hf => ?_)
    · refine z_iconst (0 : Int32) dX3_isReached_27 (by decide) ?_
      exact z_zret dX3_isReached_28 rfl (Or.inl rfl) (by cases hf; rfl)
    · refine z_aload_n 0 dX3_isReached_10 rfl rfl ?_
      refine z_iload_n 2 dX3_isReached_11 rfl rfl ?_
      refine z_iload_n 1 dX3_isReached_12 rfl rfl ?_
      refine z_cV_i (d' := d - 1) (As := [.int v2, .int v1]) (rest := []) dX3_isReached_13 lk_X3_100 rfl hf (fun w1 e1 => zc_X3_contains (by omega) e1) (by omega) rfl rfl (Nat.le_of_ble_eq_true rfl) fun y2 hf => ?_
      refine z_if_eq 21 dX3_isReached_16 (by decide) hf (fun hf => ?_) (fun hf => ?_)
      · refine z_iinc (v2 + (1 : Int32)) 2 [(2, .int (v2 + (1 : Int32))), (0, .ref v0), (1, .int v1)] dX3_isReached_21 rfl rfl (by decide) rfl ?_
        refine z_goto 2 dX3_isReached_24 (by decide) ?_
        exact Z.sub [1, 2, 0] rfl (ih (v2 + (1 : Int32)) y2.2 hf)
      · refine z_iconst (1 : Int32) dX3_isReached_19 (by decide) ?_
        exact z_zret dX3_isReached_20 rfl (Or.inr rfl) (by cases hf; rfl)
set_option maxRecDepth 4000 in
theorem zc_X3_isReached {Γ : zG} {N d : Nat} (hd : 12 ≤ d) {a : Nat} {p1 : Int32} {h : zH} {w : Int32 × zH} (hf : f_X3_isReached N a p1 h = some w) : Zm Γ m_X3_isReached d [.ref a, .int p1] h (zoI w) := by
  unfold f_X3_isReached at hf
  refine z_meth rfl (plainFor_of_name wpl_X3) (by simp [lg_sl, Value.category, zml, m_X3_isReached]) ?_
  refine z_iconst (1 : Int32) dX3_isReached_0 (by decide) ?_
  refine z_istore_n [(2, .int (1 : Int32)), (0, .ref a), (1, .int p1)] dX3_isReached_1 rfl (by decide) rfl ?_
  refine Z.sub [1, 2, 0] rfl (zl_X3_isReached_2 hd  N (1 : Int32) h hf)
set_option maxRecDepth 4000 in
theorem zl_X3_countReached_4 {Γ : zG} {N d : Nat} {h0 : zH} (hd : 13 ≤ d) {v0 : Nat}  {w : Int32 × zH}   : ∀ (n : Nat) (v1 : Int32) (v2 : Int32) (h : zH), f_X3_countReached_l4 N v0 n v1 v2 h = some w → Z Γ m_X3_countReached d h0 (zoI w) 4 [(0, .ref v0), (1, .int v1), (2, .int v2)] [] h := by
  intro n
  induction n with
  | zero => intro v1 v2 h hf; cases hf
  | succ n ih =>
    intro v1 v2 h hf
    rw [f_X3_countReached_l4] at hf
    refine z_iload_n 2 dX3_countReached_4 rfl rfl ?_
    refine z_bipush (120 : Int32) dX3_countReached_5 (by decide) ?_
    refine z_icmp_ge 32 dX3_countReached_7 (by decide) hf (fun hf => ?_) (fun hf => ?_)
    · refine z_iload_n 1 dX3_countReached_32 rfl rfl ?_
      exact z_iret dX3_countReached_33 rfl (by cases hf; rfl)
    · refine z_iload_n 1 dX3_countReached_10 rfl rfl ?_
      refine z_aload_n 0 dX3_countReached_11 rfl rfl ?_
      refine z_iload_n 2 dX3_countReached_12 rfl rfl ?_
      refine z_cV_i (d' := d - 1) (As := [.int v2]) (rest := [.int v1]) dX3_countReached_13 lk_X3_96 rfl hf (fun w1 e1 => zc_X3_isReached (by omega) e1) (by omega) rfl rfl (Nat.le_of_ble_eq_true rfl) fun y1 hf => ?_
      refine zjn_elim (P := fun (j24 : Int32 → Int32 → Int32 → zH → Option (Int32 × zH)) => ∀ (v2 : Int32) (s0 : Int32) (s1 : Int32) (h : zH), j24 v2 s0 s1 h = some w → Z Γ m_X3_countReached d h0 (zoI w) 24 [(0, .ref v0), (2, .int v2)] [.int s1, .int s0] h) hf (fun v2 s0 s1 h hf => ?_) (fun j24 hj24 hf => ?_)
      · refine z_iadd dX3_countReached_24 ?_
        refine z_istore_n [(1, .int (s0 + s1)), (0, .ref v0), (2, .int v2)] dX3_countReached_25 rfl (by decide) rfl ?_
        refine z_iinc (v2 + (1 : Int32)) 2 [(2, .int (v2 + (1 : Int32))), (1, .int (s0 + s1)), (0, .ref v0)] dX3_countReached_26 rfl rfl (by decide) rfl ?_
        refine z_goto 4 dX3_countReached_29 (by decide) ?_
        exact Z.sub [2, 1, 0] rfl (ih (s0 + s1) (v2 + (1 : Int32)) h hf)
      · refine z_if_eq 23 dX3_countReached_16 (by decide) hf (fun hf => ?_) (fun hf => ?_)
        · refine z_iconst (0 : Int32) dX3_countReached_23 (by decide) ?_
          exact Z.sub [0, 2] rfl (hj24 v2 v1 (0 : Int32) y1.2 hf)
        · refine z_iconst (1 : Int32) dX3_countReached_19 (by decide) ?_
          refine z_goto 24 dX3_countReached_20 (by decide) ?_
          exact Z.sub [0, 2] rfl (hj24 v2 v1 (1 : Int32) y1.2 hf)
set_option maxRecDepth 4000 in
theorem zc_X3_countReached {Γ : zG} {N d : Nat} (hd : 13 ≤ d) {a : Nat} {h : zH} {w : Int32 × zH} (hf : f_X3_countReached N a h = some w) : Zm Γ m_X3_countReached d [.ref a] h (zoI w) := by
  unfold f_X3_countReached at hf
  refine z_meth rfl (plainFor_of_name wpl_X3) (by simp [lg_sl, Value.category, zml, m_X3_countReached]) ?_
  refine z_iconst (0 : Int32) dX3_countReached_0 (by decide) ?_
  refine z_istore_n [(1, .int (0 : Int32)), (0, .ref a)] dX3_countReached_1 rfl (by decide) rfl ?_
  refine z_iconst (0 : Int32) dX3_countReached_2 (by decide) ?_
  refine z_istore_n [(2, .int (0 : Int32)), (1, .int (0 : Int32)), (0, .ref a)] dX3_countReached_3 rfl (by decide) rfl ?_
  refine Z.sub [2, 1, 0] rfl (zl_X3_countReached_4 hd  N (0 : Int32) (0 : Int32) h hf)
set_option maxRecDepth 4000 in
theorem zc_X8_reach {Γ : zG} {N d : Nat} (hd : 14 ≤ d) {a : Nat} {p1 : Int32} {h : zH} {w : (Int32 ⊕ Nat) × zH} (hf : f_X8_reach N a p1 h = some w) : Zm Γ m_X8_reach d [.ref a, .int p1] h (zoTI w) := by
  unfold f_X8_reach at hf
  refine z_meth rfl (plainFor_of_name wpl_X8) (by simp [lg_sl, Value.category, zml, m_X8_reach]) ?_
  refine z_aload_n 0 dX8_reach_0 rfl rfl ?_
  refine z_getA dX8_reach_1 zc8 (by decide) wf_X8_42 hf fun x1 hf => ?_
  refine z_aload_n 0 dX8_reach_4 rfl rfl ?_
  refine z_iload_n 1 dX8_reach_5 rfl rfl ?_
  refine z_cV_ta (d' := d - 1) (As := [.int p1]) (rest := [.ref x1]) dX8_reach_6 lk_X8_119 rfl hf (fun w1 e1 => zc_X8_existing (by omega) e1) (by omega) rfl rfl (Nat.le_of_ble_eq_true rfl) (fun y2 x3 hf => ?_) (fun y2 k4 hf => ?_)
  · refine z_aload_n 0 dX8_reach_9 rfl rfl ?_
    refine z_getA dX8_reach_10 zc8 (by decide) wf_X8_28 hf fun x5 hf => ?_
    refine z_getI dX8_reach_13 zc0 (by decide) wf_X8_86 hf fun x6 hf => ?_
    refine z_cV_v (d' := d - 1) (As := [.ref x3, .int x6]) (rest := []) dX8_reach_16 lk_X8_176 rfl hf (fun w1 e1 => zc_X3_study (by omega) e1) (by omega) rfl rfl (Nat.le_of_ble_eq_true rfl) fun y7 hf => ?_
    refine z_aload_n 0 dX8_reach_19 rfl rfl ?_
    refine z_getA dX8_reach_20 zc8 (by decide) wf_X8_42 hf fun x8 hf => ?_
    refine z_cV_i (d' := d - 1) (As := []) (rest := []) dX8_reach_23 lk_X8_180 rfl hf (fun w1 e1 => zc_X3_countReached (by omega) e1) (by omega) rfl rfl (Nat.le_of_ble_eq_true rfl) fun y9 hf => ?_
    exact z_iret dX8_reach_26 rfl (by cases hf; rfl)
  · exact zx_out rfl (by cases hf; rfl)
set_option maxRecDepth 4000 in
theorem zc_L_reach {Γ : zG} {N d : Nat} (hd : 15 ≤ d) {p1 : Nat} {p2 : Int32} {p3 : Nat} {h : zH} {w : Int32 × zH} (hf : f_L_reach N p1 p2 p3 h = some w) : Zm Γ m_L_reach d [.ref p1, .int p2, .ref p3] h (zoI w) := by
  unfold f_L_reach at hf
  refine z_methH (by decide) (by decide +kernel) (by simp [lg_sl, Value.category, zml, m_L_reach]) ?_
  refine z_aload_n 2 dL_reach_0 rfl rfl ?_
  refine z_iconst (0 : Int32) dL_reach_1 (by decide) ?_
  refine z_aload_n 0 dL_reach_2 rfl rfl ?_
  refine z_iload_n 1 dL_reach_3 rfl rfl ?_
  refine z_cV_ti (d' := d - 1) (As := [.int p2]) (rest := [.int (0 : Int32), .ref p3]) dL_reach_4 lk_L_45 rfl hf (fun w1 e1 => zc_X8_reach (by omega) e1) (by omega) rfl rfl (Nat.le_of_ble_eq_true rfl) (fun y1 x2 hf => ?_) (fun y1 k3 hf => ?_)
  · refine z_i2l dL_reach_7 ?_
    refine z_lastore dL_reach_8 hf fun h4 hf => ?_
    refine z_goto 15 dL_reach_9 (by decide) ?_
    refine z_iconst (0 : Int32) dL_reach_15 (by decide) ?_
    exact z_iret dL_reach_16 rfl (by cases hf; rfl)
  · by_cases e0 : k3 = 2
    · rw [if_pos e0] at hf
      subst e0
      refine zx_catch (by decide) [] (0, 9, 12, 22) [] rfl (fun z hz => absurd hz List.not_mem_nil) (by decide) (by decide) wc_L_22 wct_2 fun q5 => ?_
      refine z_astore_n [(3, .ref q5), (0, .ref p1), (1, .int p2), (2, .ref p3)] dL_reach_12 rfl (by decide) rfl ?_
      refine z_iconst (1 : Int32) dL_reach_13 (by decide) ?_
      exact z_iret dL_reach_14 rfl (by cases hf; rfl)
    · rw [if_neg e0] at hf
      cases hf
set_option maxRecDepth 4000 in
theorem zl_X9_layGroup_37 {Γ : zG} {N d : Nat} {h0 : zH} (hd : 11 ≤ d) {v0 : Nat}  {w : zH}   : ∀ (n : Nat) (v1 : Int32) (h : zH), f_X9_layGroup_l37 N v0 n v1 h = some w → Z Γ m_X9_layGroup d h0 (zoV w) 37 [(0, .ref v0), (1, .int v1)] [] h := by
  intro n
  induction n with
  | zero => intro v1 h hf; cases hf
  | succ n ih =>
    intro v1 h hf
    rw [f_X9_layGroup_l37] at hf
    refine z_iload_n 1 dX9_layGroup_37 rfl rfl ?_
    refine z_ldc (54321 : Int32) dX9_layGroup_38 wk_X9_49 ?_
    refine z_icmp_gt 93 dX9_layGroup_40 (by decide) hf (fun hf => ?_) (fun hf => ?_)
    · exact z_vret dX9_layGroup_93 rfl (by cases hf; rfl)
    · refine z_iload_n 1 dX9_layGroup_43 rfl rfl ?_
      refine z_aload_n 0 dX9_layGroup_44 rfl rfl ?_
      refine z_getI dX9_layGroup_45 zc9 (by decide) wf_X9_233 hf fun x10 hf => ?_
      refine z_cS_i (d' := d - 1) (As := [.int v1, .int x10]) (rest := []) dX9_layGroup_48 lk_X9_153 hf (fun w1 e1 => zc_X9_isElement (by omega) e1) (by omega) rfl rfl (Nat.le_of_ble_eq_true rfl) fun y11 hf => ?_
      refine zjn_elim (P := fun (j87 : Int32 → zH → Option (zH)) => ∀ (v1 : Int32) (h : zH), j87 v1 h = some w → Z Γ m_X9_layGroup d h0 (zoV w) 87 [(0, .ref v0), (1, .int v1)] [] h) hf (fun v1 h hf => ?_) (fun j87 hj87 hf => ?_)
      · refine z_iinc (v1 + (1 : Int32)) 1 [(1, .int (v1 + (1 : Int32))), (0, .ref v0)] dX9_layGroup_87 rfl rfl (by decide) rfl ?_
        refine z_goto 37 dX9_layGroup_90 (by decide) ?_
        exact Z.sub [1, 0] rfl (ih (v1 + (1 : Int32)) h hf)
      · refine z_if_ne 57 dX9_layGroup_51 (by decide) hf (fun hf => ?_) (fun hf => ?_)
        · refine z_goto 87 dX9_layGroup_54 (by decide) ?_
          exact Z.sub [0, 1] rfl (hj87 v1 y11.2 hf)
        · refine z_aload_n 0 dX9_layGroup_57 rfl rfl ?_
          refine z_getA dX9_layGroup_58 zc9 (by decide) wf_X9_32 hf fun x12 hf => ?_
          refine z_aload_n 0 dX9_layGroup_61 rfl rfl ?_
          refine z_getI dX9_layGroup_62 zc9 (by decide) wf_X9_236 hf fun x13 hf => ?_
          refine z_iload_n 1 dX9_layGroup_65 rfl rfl ?_
          refine z_iastore dX9_layGroup_66 hf fun h14 hf => ?_
          refine z_aload_n 0 dX9_layGroup_67 rfl rfl ?_
          refine z_getA dX9_layGroup_68 zc9 (by decide) wf_X9_36 hf fun x15 hf => ?_
          refine z_iload_n 1 dX9_layGroup_71 rfl rfl ?_
          refine z_aload_n 0 dX9_layGroup_72 rfl rfl ?_
          refine z_getI dX9_layGroup_73 zc9 (by decide) wf_X9_236 hf fun x16 hf => ?_
          refine z_iastore dX9_layGroup_76 hf fun h17 hf => ?_
          refine z_aload_n 0 dX9_layGroup_77 rfl rfl ?_
          refine z_dup dX9_layGroup_78 rfl ?_
          refine z_getI dX9_layGroup_79 zc9 (by decide) wf_X9_236 hf fun x18 hf => ?_
          refine z_iconst (1 : Int32) dX9_layGroup_82 (by decide) ?_
          refine z_iadd dX9_layGroup_83 ?_
          refine z_putB dX9_layGroup_84 zc9 (by decide) wf_X9_236 (Or.inl rfl) rfl rfl hf fun h19 hf => ?_
          exact Z.sub [0, 1] rfl (hj87 v1 h19 hf)
set_option maxRecDepth 4000 in
theorem zc_X9_layGroup {Γ : zG} {N d : Nat} (hd : 11 ≤ d) {a : Nat} {h : zH} {w : zH} (hf : f_X9_layGroup N a h = some w) : Zm Γ m_X9_layGroup d [.ref a] h (zoV w) := by
  unfold f_X9_layGroup at hf
  refine z_meth rfl (plainFor_of_name wpl_X9) (by simp [lg_sl, Value.category, zml, m_X9_layGroup]) ?_
  refine z_aload_n 0 dX9_layGroup_0 rfl rfl ?_
  refine z_getI dX9_layGroup_1 zc9 (by decide) wf_X9_233 hf fun x1 hf => ?_
  refine z_aload_n 0 dX9_layGroup_4 rfl rfl ?_
  refine z_getA dX9_layGroup_5 zc9 (by decide) wf_X9_17 hf fun x2 hf => ?_
  refine z_iconst (0 : Int32) dX9_layGroup_8 (by decide) ?_
  refine z_iaload dX9_layGroup_9 hf fun x3 hf => ?_
  refine z_icmp_ne 14 dX9_layGroup_10 (by decide) hf (fun hf => ?_) (fun hf => ?_)
  · exact z_vret dX9_layGroup_13 rfl (by cases hf; rfl)
  · refine z_aload_n 0 dX9_layGroup_14 rfl rfl ?_
    refine z_aload_n 0 dX9_layGroup_15 rfl rfl ?_
    refine z_getA dX9_layGroup_16 zc9 (by decide) wf_X9_17 hf fun x4 hf => ?_
    refine z_iconst (0 : Int32) dX9_layGroup_19 (by decide) ?_
    refine z_iaload dX9_layGroup_20 hf fun x5 hf => ?_
    refine z_putB dX9_layGroup_21 zc9 (by decide) wf_X9_233 (Or.inl rfl) rfl rfl hf fun h6 hf => ?_
    refine z_aload_n 0 dX9_layGroup_24 rfl rfl ?_
    refine z_iconst (0 : Int32) dX9_layGroup_25 (by decide) ?_
    refine z_putB dX9_layGroup_26 zc9 (by decide) wf_X9_236 (Or.inl rfl) rfl rfl hf fun h7 hf => ?_
    refine z_aload_n 0 dX9_layGroup_29 rfl rfl ?_
    refine z_getI dX9_layGroup_30 zc9 (by decide) wf_X9_233 hf fun x8 hf => ?_
    refine z_cS_i (d' := d - 1) (As := [.int x8]) (rest := []) dX9_layGroup_33 lk_X9_54 hf (fun w1 e1 => zc_X9_neutral (by omega) e1) (by omega) rfl rfl (Nat.le_of_ble_eq_true rfl) fun y9 hf => ?_
    refine z_istore_n [(1, .int y9.1), (0, .ref a)] dX9_layGroup_36 rfl (by decide) rfl ?_
    refine Z.sub [1, 0] rfl (zl_X9_layGroup_37 hd  N y9.1 y9.2 hf)
set_option maxRecDepth 4000 in
theorem zl_X9_layFrom_16 {Γ : zG} {N d : Nat} {h0 : zH} (hd : 12 ≤ d) {v0 : Nat} {v1 : Int32} {v2 : Int32} {v3 : Int32} {v4 : Int32} {k1 : zH → Option (zH)} {w : zH}  (hk1 : ∀ (h : zH), k1 h = some w → Z Γ m_X9_layFrom d h0 (zoV w) 40 [(0, .ref v0), (1, .int v1), (2, .int v2), (3, .int v3), (4, .int v4)] [] h) : ∀ (n : Nat) (v5 : Int32) (h : zH), f_X9_layFrom_l16 N v0 v1 v2 v3 v4 k1 n v5 h = some w → Z Γ m_X9_layFrom d h0 (zoV w) 16 [(0, .ref v0), (1, .int v1), (2, .int v2), (3, .int v3), (4, .int v4), (5, .int v5)] [] h := by
  intro n
  induction n with
  | zero => intro v5 h hf; cases hf
  | succ n ih =>
    intro v5 h hf
    rw [f_X9_layFrom_l16] at hf
    refine z_iload 5 dX9_layFrom_16 rfl ?_
    refine z_iload 4 dX9_layFrom_18 rfl ?_
    refine z_bipush (120 : Int32) dX9_layFrom_20 (by decide) ?_
    refine z_imul dX9_layFrom_22 ?_
    refine z_icmp_ge 40 dX9_layFrom_23 (by decide) hf (fun hf => ?_) (fun hf => ?_)
    · exact Z.sub [0, 1, 2, 3, 4] rfl (hk1 h hf)
    · refine z_aload_n 0 dX9_layFrom_26 rfl rfl ?_
      refine z_getA dX9_layFrom_27 zc9 (by decide) wf_X9_39 hf fun x3 hf => ?_
      refine z_iload 5 dX9_layFrom_30 rfl ?_
      refine z_iconst (0 : Int32) dX9_layFrom_32 (by decide) ?_
      refine z_bastore dX9_layFrom_33 hf fun h4 hf => ?_
      refine z_iinc (v5 + (1 : Int32)) 5 [(5, .int (v5 + (1 : Int32))), (0, .ref v0), (1, .int v1), (2, .int v2), (3, .int v3), (4, .int v4)] dX9_layFrom_34 rfl rfl (by decide) rfl ?_
      refine z_goto 16 dX9_layFrom_37 (by decide) ?_
      exact Z.sub [1, 2, 3, 4, 5, 0] rfl (ih (v5 + (1 : Int32)) h4 hf)
set_option maxRecDepth 4000 in
theorem zl_X9_layFrom_96 {Γ : zG} {N d : Nat} {h0 : zH} (hd : 12 ≤ d) {v0 : Nat} {v1 : Int32} {v3 : Int32} {v4 : Int32} {v5 : Int32} {v6 : Int32} {k1 : zH → Option (zH)} {w : zH}  (hk1 : ∀ (h : zH), k1 h = some w → Z Γ m_X9_layFrom d h0 (zoV w) 175 [(0, .ref v0), (1, .int v1), (3, .int v3), (4, .int v4), (5, .int v5), (6, .int v6)] [] h) : ∀ (n : Nat) (v7 : Int32) (h : zH), f_X9_layFrom_l96 N v0 v1 v3 v4 v5 v6 k1 n v7 h = some w → Z Γ m_X9_layFrom d h0 (zoV w) 96 [(0, .ref v0), (1, .int v1), (3, .int v3), (4, .int v4), (5, .int v5), (6, .int v6), (7, .int v7)] [] h := by
  intro n
  induction n with
  | zero => intro v7 h hf; cases hf
  | succ n ih =>
    intro v7 h hf
    rw [f_X9_layFrom_l96] at hf
    refine z_iload 6 dX9_layFrom_96 rfl ?_
    refine z_aload_n 0 dX9_layFrom_98 rfl rfl ?_
    refine z_iload_n 1 dX9_layFrom_99 rfl rfl ?_
    refine z_cV_i (d' := d - 1) (As := [.int v1]) (rest := [.int v7]) dX9_layFrom_100 lk_X9_242 rfl hf (fun w1 e1 => zc_X9_cardsOf (by omega) e1) (by omega) rfl rfl (Nat.le_of_ble_eq_true rfl) fun y13 hf => ?_
    refine z_icmp_ge 175 dX9_layFrom_103 (by decide) hf (fun hf => ?_) (fun hf => ?_)
    · exact Z.sub [0, 1, 2, 3, 4, 5] rfl (hk1 y13.2 hf)
    · refine z_iload 6 dX9_layFrom_106 rfl ?_
      refine z_iload_n 2 dX9_layFrom_108 rfl rfl ?_
      refine zjn_elim (P := fun (j169 : Int32 → zH → Option (zH)) => ∀ (v7 : Int32) (h : zH), j169 v7 h = some w → Z Γ m_X9_layFrom d h0 (zoV w) 169 [(0, .ref v0), (1, .int v1), (3, .int v3), (4, .int v4), (5, .int v5), (6, .int v6), (7, .int v7)] [] h) hf (fun v7 h hf => ?_) (fun j169 hj169 hf => ?_)
      · refine z_iinc (v7 + (1 : Int32)) 6 [(7, .int (v7 + (1 : Int32))), (0, .ref v0), (1, .int v1), (3, .int v3), (4, .int v4), (5, .int v5), (6, .int v6)] dX9_layFrom_169 rfl rfl (by decide) rfl ?_
        refine z_goto 96 dX9_layFrom_172 (by decide) ?_
        exact Z.sub [1, 2, 3, 4, 5, 6, 0] rfl (ih (v7 + (1 : Int32)) h hf)
      · refine z_icmp_eq 169 dX9_layFrom_109 (by decide) hf (fun hf => ?_) (fun hf => ?_)
        · exact Z.sub [0, 1, 2, 3, 4, 5, 6] rfl (hj169 v7 y13.2 hf)
        · refine z_iload 4 dX9_layFrom_112 rfl ?_
          refine z_iload 6 dX9_layFrom_114 rfl ?_
          refine z_ishr dX9_layFrom_116 ?_
          refine z_iconst (1 : Int32) dX9_layFrom_117 (by decide) ?_
          refine z_iand dX9_layFrom_118 ?_
          refine z_iconst (1 : Int32) dX9_layFrom_119 (by decide) ?_
          refine z_icmp_ne 126 dX9_layFrom_120 (by decide) hf (fun hf => ?_) (fun hf => ?_)
          · refine z_goto 169 dX9_layFrom_123 (by decide) ?_
            exact Z.sub [0, 1, 2, 3, 4, 5, 6] rfl (hj169 v7 y13.2 hf)
          · refine z_aload_n 0 dX9_layFrom_126 rfl rfl ?_
            refine z_getA dX9_layFrom_127 zc9 (by decide) wf_X9_39 hf fun x14 hf => ?_
            refine z_bipush (120 : Int32) dX9_layFrom_130 (by decide) ?_
            refine z_iload 4 dX9_layFrom_132 rfl ?_
            refine z_iconst (1 : Int32) dX9_layFrom_134 (by decide) ?_
            refine z_iload 6 dX9_layFrom_135 rfl ?_
            refine z_ishl dX9_layFrom_137 ?_
            refine z_ior dX9_layFrom_138 ?_
            refine z_imul dX9_layFrom_139 ?_
            refine z_aload_n 0 dX9_layFrom_140 rfl rfl ?_
            refine z_getA dX9_layFrom_141 zc9 (by decide) wf_X9_36 hf fun x15 hf => ?_
            refine z_aload_n 0 dX9_layFrom_144 rfl rfl ?_
            refine z_getA dX9_layFrom_145 zc9 (by decide) wf_X9_32 hf fun x16 hf => ?_
            refine z_iload 5 dX9_layFrom_148 rfl ?_
            refine z_iaload dX9_layFrom_150 hf fun x17 hf => ?_
            refine z_aload_n 0 dX9_layFrom_151 rfl rfl ?_
            refine z_iload_n 1 dX9_layFrom_152 rfl rfl ?_
            refine z_iload 6 dX9_layFrom_153 rfl ?_
            refine z_cV_i (d' := d - 1) (As := [.int v1, .int v7]) (rest := [.int x17, .ref x15, .int ((120 : Int32) * (v5 ||| ((1 : Int32) <<< (v7 &&& 31)))), .ref x14]) dX9_layFrom_155 lk_X9_221 rfl hf (fun w1 e1 => zc_X9_elementOf (by omega) e1) (by omega) rfl rfl (Nat.le_of_ble_eq_true rfl) fun y18 hf => ?_
            refine z_aload_n 0 dX9_layFrom_158 rfl rfl ?_
            refine z_getI dX9_layFrom_159 zc9 (by decide) wf_X9_233 hf fun x19 hf => ?_
            refine z_cS_i (d' := d - 1) (As := [.int x17, .int y18.1, .int x19]) (rest := [.ref x15, .int ((120 : Int32) * (v5 ||| ((1 : Int32) <<< (v7 &&& 31)))), .ref x14]) dX9_layFrom_162 lk_X9_58 hf (fun w1 e1 => zc_X9_times (by omega) e1) (by omega) rfl rfl (Nat.le_of_ble_eq_true rfl) fun y20 hf => ?_
            refine z_iaload dX9_layFrom_165 hf fun x21 hf => ?_
            refine z_iadd dX9_layFrom_166 ?_
            refine z_iconst (1 : Int32) dX9_layFrom_167 (by decide) ?_
            refine z_bastore dX9_layFrom_168 hf fun h22 hf => ?_
            exact Z.sub [0, 1, 2, 3, 4, 5, 6] rfl (hj169 v7 h22 hf)
set_option maxRecDepth 4000 in
theorem zl_X9_layFrom_65 {Γ : zG} {N d : Nat} {h0 : zH} (hd : 12 ≤ d) {v0 : Nat} {v1 : Int32} {v3 : Int32} {v4 : Int32} {v5 : Int32} {k1 : zH → Option (zH)} {w : zH}  (hk1 : ∀ (h : zH), k1 h = some w → Z Γ m_X9_layFrom d h0 (zoV w) 181 [(0, .ref v0), (1, .int v1), (3, .int v3), (4, .int v4), (5, .int v5)] [] h) : ∀ (n : Nat) (v6 : Int32) (h : zH), f_X9_layFrom_l65 N v0 v1 v3 v4 v5 k1 n v6 h = some w → Z Γ m_X9_layFrom d h0 (zoV w) 65 [(0, .ref v0), (1, .int v1), (3, .int v3), (4, .int v4), (5, .int v5), (6, .int v6)] [] h := by
  intro n
  induction n with
  | zero => intro v6 h hf; cases hf
  | succ n ih =>
    intro v6 h hf
    rw [f_X9_layFrom_l65] at hf
    refine z_iload 5 dX9_layFrom_65 rfl ?_
    refine z_aload_n 0 dX9_layFrom_67 rfl rfl ?_
    refine z_getI dX9_layFrom_68 zc9 (by decide) wf_X9_236 hf fun x10 hf => ?_
    refine z_icmp_ge 181 dX9_layFrom_71 (by decide) hf (fun hf => ?_) (fun hf => ?_)
    · exact Z.sub [0, 1, 2, 3, 4] rfl (hk1 h hf)
    · refine z_aload_n 0 dX9_layFrom_74 rfl rfl ?_
      refine z_getA dX9_layFrom_75 zc9 (by decide) wf_X9_39 hf fun x11 hf => ?_
      refine z_bipush (120 : Int32) dX9_layFrom_78 (by decide) ?_
      refine z_iload 4 dX9_layFrom_80 rfl ?_
      refine z_imul dX9_layFrom_82 ?_
      refine z_iload 5 dX9_layFrom_83 rfl ?_
      refine z_iadd dX9_layFrom_85 ?_
      refine z_baload dX9_layFrom_86 hf fun x12 hf => ?_
      refine zjn_elim (P := fun (j175 : Int32 → zH → Option (zH)) => ∀ (v6 : Int32) (h : zH), j175 v6 h = some w → Z Γ m_X9_layFrom d h0 (zoV w) 175 [(0, .ref v0), (1, .int v1), (3, .int v3), (4, .int v4), (5, .int v5), (6, .int v6)] [] h) hf (fun v6 h hf => ?_) (fun j175 hj175 hf => ?_)
      · refine z_iinc (v6 + (1 : Int32)) 5 [(6, .int (v6 + (1 : Int32))), (0, .ref v0), (1, .int v1), (3, .int v3), (4, .int v4), (5, .int v5)] dX9_layFrom_175 rfl rfl (by decide) rfl ?_
        refine z_goto 65 dX9_layFrom_178 (by decide) ?_
        exact Z.sub [1, 2, 3, 4, 5, 0] rfl (ih (v6 + (1 : Int32)) h hf)
      · refine z_if_ne 93 dX9_layFrom_87 (by decide) hf (fun hf => ?_) (fun hf => ?_)
        · refine z_goto 175 dX9_layFrom_90 (by decide) ?_
          exact Z.sub [0, 1, 2, 3, 4, 5] rfl (hj175 v6 h hf)
        · refine z_iconst (0 : Int32) dX9_layFrom_93 (by decide) ?_
          refine z_istore [(7, .int (0 : Int32)), (0, .ref v0), (1, .int v1), (3, .int v3), (4, .int v4), (5, .int v5), (6, .int v6)] dX9_layFrom_94 (by decide) rfl ?_
          refine Z.sub [1, 2, 3, 4, 5, 6, 0] rfl (zl_X9_layFrom_96 hd (fun h23 hf => ?_) N (0 : Int32) h hf)
          · exact Z.sub [0, 1, 2, 3, 4, 5] rfl (hj175 v6 h23 hf)
set_option maxRecDepth 4000 in
theorem zl_X9_layFrom_55 {Γ : zG} {N d : Nat} {h0 : zH} (hd : 12 ≤ d) {v0 : Nat} {v1 : Int32} {v3 : Int32} {v4 : Int32}  {w : zH}   : ∀ (n : Nat) (v5 : Int32) (h : zH), f_X9_layFrom_l55 N v0 v1 v3 v4 n v5 h = some w → Z Γ m_X9_layFrom d h0 (zoV w) 55 [(0, .ref v0), (1, .int v1), (3, .int v3), (4, .int v4), (5, .int v5)] [] h := by
  intro n
  induction n with
  | zero => intro v5 h hf; cases hf
  | succ n ih =>
    intro v5 h hf
    rw [f_X9_layFrom_l55] at hf
    refine z_iload 4 dX9_layFrom_55 rfl ?_
    refine z_iload 3 dX9_layFrom_57 rfl ?_
    refine z_icmp_ge 187 dX9_layFrom_59 (by decide) hf (fun hf => ?_) (fun hf => ?_)
    · exact z_vret dX9_layFrom_187 rfl (by cases hf; rfl)
    · refine z_iconst (0 : Int32) dX9_layFrom_62 (by decide) ?_
      refine z_istore [(6, .int (0 : Int32)), (0, .ref v0), (1, .int v1), (3, .int v3), (4, .int v4), (5, .int v5)] dX9_layFrom_63 (by decide) rfl ?_
      refine Z.sub [1, 2, 3, 4, 5, 0] rfl (zl_X9_layFrom_65 hd (fun h24 hf => ?_) N (0 : Int32) h hf)
      · refine z_iinc (v5 + (1 : Int32)) 4 [(5, .int (v5 + (1 : Int32))), (0, .ref v0), (1, .int v1), (3, .int v3), (4, .int v4)] dX9_layFrom_181 rfl rfl (by decide) rfl ?_
        refine z_goto 55 dX9_layFrom_184 (by decide) ?_
        exact Z.sub [1, 2, 3, 4, 0] rfl (ih (v5 + (1 : Int32)) h24 hf)
set_option maxRecDepth 4000 in
theorem zc_X9_layFrom {Γ : zG} {N d : Nat} (hd : 12 ≤ d) {a : Nat} {p1 : Int32} {p2 : Int32} {p3 : Int32} {h : zH} {w : zH} (hf : f_X9_layFrom N a p1 p2 p3 h = some w) : Zm Γ m_X9_layFrom d [.ref a, .int p1, .int p2, .int p3] h (zoV w) := by
  unfold f_X9_layFrom at hf
  refine z_meth rfl (plainFor_of_name wpl_X9) (by simp [lg_sl, Value.category, zml, m_X9_layFrom]) ?_
  refine z_aload_n 0 dX9_layFrom_0 rfl rfl ?_
  refine z_cV_v (d' := d - 1) (As := []) (rest := []) dX9_layFrom_1 lk_X9_239 rfl hf (fun w1 e1 => zc_X9_layGroup (by omega) e1) (by omega) rfl rfl (Nat.le_of_ble_eq_true rfl) fun y1 hf => ?_
  refine z_iconst (1 : Int32) dX9_layFrom_4 (by decide) ?_
  refine z_aload_n 0 dX9_layFrom_5 rfl rfl ?_
  refine z_iload_n 1 dX9_layFrom_6 rfl rfl ?_
  refine z_cV_i (d' := d - 1) (As := [.int p1]) (rest := [.int (1 : Int32)]) dX9_layFrom_7 lk_X9_242 rfl hf (fun w1 e1 => zc_X9_cardsOf (by omega) e1) (by omega) rfl rfl (Nat.le_of_ble_eq_true rfl) fun y2 hf => ?_
  refine z_ishl dX9_layFrom_10 ?_
  refine z_istore [(4, .int ((1 : Int32) <<< (y2.1 &&& 31))), (0, .ref a), (1, .int p1), (2, .int p2), (3, .int p3)] dX9_layFrom_11 (by decide) rfl ?_
  refine z_iconst (0 : Int32) dX9_layFrom_13 (by decide) ?_
  refine z_istore [(5, .int (0 : Int32)), (4, .int ((1 : Int32) <<< (y2.1 &&& 31))), (0, .ref a), (1, .int p1), (2, .int p2), (3, .int p3)] dX9_layFrom_14 (by decide) rfl ?_
  refine Z.sub [2, 3, 4, 5, 1, 0] rfl (zl_X9_layFrom_16 hd (fun h5 hf => ?_) N (0 : Int32) y2.2 hf)
  · refine z_aload_n 0 dX9_layFrom_40 rfl rfl ?_
    refine z_getA dX9_layFrom_41 zc9 (by decide) wf_X9_39 hf fun x6 hf => ?_
    refine z_aload_n 0 dX9_layFrom_44 rfl rfl ?_
    refine z_getA dX9_layFrom_45 zc9 (by decide) wf_X9_36 hf fun x7 hf => ?_
    refine z_iload_n 2 dX9_layFrom_48 rfl rfl ?_
    refine z_iaload dX9_layFrom_49 hf fun x8 hf => ?_
    refine z_iconst (1 : Int32) dX9_layFrom_50 (by decide) ?_
    refine z_bastore dX9_layFrom_51 hf fun h9 hf => ?_
    refine z_iconst (0 : Int32) dX9_layFrom_52 (by decide) ?_
    refine z_istore [(5, .int (0 : Int32)), (0, .ref a), (1, .int p1), (2, .int p2), (3, .int p3), (4, .int ((1 : Int32) <<< (y2.1 &&& 31)))] dX9_layFrom_53 (by decide) rfl ?_
    refine Z.sub [1, 2, 4, 5, 0] rfl (zl_X9_layFrom_55 hd  N (0 : Int32) h9 hf)
set_option maxRecDepth 4000 in
theorem zl_X9_isReached_2 {Γ : zG} {N d : Nat} {h0 : zH} (hd : 12 ≤ d) {v0 : Nat} {v1 : Int32} {v2 : Int32}  {w : Int32 × zH}   : ∀ (n : Nat) (v3 : Int32) (h : zH), f_X9_isReached_l2 N v0 v1 v2 n v3 h = some w → Z Γ m_X9_isReached d h0 (zoI w) 2 [(0, .ref v0), (1, .int v1), (2, .int v2), (3, .int v3)] [] h := by
  intro n
  induction n with
  | zero => intro v3 h hf; cases hf
  | succ n ih =>
    intro v3 h hf
    rw [f_X9_isReached_l2] at hf
    refine z_iload_n 3 dX9_isReached_2 rfl rfl ?_
    refine z_iconst (1 : Int32) dX9_isReached_3 (by decide) ?_
    refine z_aload_n 0 dX9_isReached_4 rfl rfl ?_
    refine z_iload_n 1 dX9_isReached_5 rfl rfl ?_
    refine z_cV_i (d' := d - 1) (As := [.int v1]) (rest := [.int (1 : Int32), .int v3]) dX9_isReached_6 lk_X9_242 rfl hf (fun w1 e1 => zc_X9_cardsOf (by omega) e1) (by omega) rfl rfl (Nat.le_of_ble_eq_true rfl) fun y1 hf => ?_
    refine z_ishl dX9_isReached_9 ?_
    refine z_icmp_ge 40 dX9_isReached_10 (by decide) hf (fun hf => ?_) (fun hf => ?_)
    · refine z_iconst (0 : Int32) dX9_isReached_40 (by decide) ?_
      exact z_zret dX9_isReached_41 rfl (Or.inl rfl) (by cases hf; rfl)
    · refine z_aload_n 0 dX9_isReached_13 rfl rfl ?_
      refine z_getA dX9_isReached_14 zc9 (by decide) wf_X9_39 hf fun x2 hf => ?_
      refine z_bipush (120 : Int32) dX9_isReached_17 (by decide) ?_
      refine z_iload_n 3 dX9_isReached_19 rfl rfl ?_
      refine z_imul dX9_isReached_20 ?_
      refine z_aload_n 0 dX9_isReached_21 rfl rfl ?_
      refine z_getA dX9_isReached_22 zc9 (by decide) wf_X9_36 hf fun x3 hf => ?_
      refine z_iload_n 2 dX9_isReached_25 rfl rfl ?_
      refine z_iaload dX9_isReached_26 hf fun x4 hf => ?_
      refine z_iadd dX9_isReached_27 ?_
      refine z_baload dX9_isReached_28 hf fun x5 hf => ?_
      refine z_if_eq 34 dX9_isReached_29 (by decide) hf (fun hf => ?_) (fun hf => ?_)
      · refine z_iinc (v3 + (1 : Int32)) 3 [(3, .int (v3 + (1 : Int32))), (0, .ref v0), (1, .int v1), (2, .int v2)] dX9_isReached_34 rfl rfl (by decide) rfl ?_
        refine z_goto 2 dX9_isReached_37 (by decide) ?_
        exact Z.sub [1, 2, 3, 0] rfl (ih (v3 + (1 : Int32)) y1.2 hf)
      · refine z_iconst (1 : Int32) dX9_isReached_32 (by decide) ?_
        exact z_zret dX9_isReached_33 rfl (Or.inr rfl) (by cases hf; rfl)
set_option maxRecDepth 4000 in
theorem zc_X9_isReached {Γ : zG} {N d : Nat} (hd : 12 ≤ d) {a : Nat} {p1 : Int32} {p2 : Int32} {h : zH} {w : Int32 × zH} (hf : f_X9_isReached N a p1 p2 h = some w) : Zm Γ m_X9_isReached d [.ref a, .int p1, .int p2] h (zoI w) := by
  unfold f_X9_isReached at hf
  refine z_meth rfl (plainFor_of_name wpl_X9) (by simp [lg_sl, Value.category, zml, m_X9_isReached]) ?_
  refine z_iconst (1 : Int32) dX9_isReached_0 (by decide) ?_
  refine z_istore_n [(3, .int (1 : Int32)), (0, .ref a), (1, .int p1), (2, .int p2)] dX9_isReached_1 rfl (by decide) rfl ?_
  refine Z.sub [1, 2, 3, 0] rfl (zl_X9_isReached_2 hd  N (1 : Int32) h hf)
set_option maxRecDepth 4000 in
theorem zl_X9_reach_34 {Γ : zG} {N d : Nat} {h0 : zH} (hd : 13 ≤ d) {v0 : Nat} {v1 : Int32}  {w : Int32 × zH}   : ∀ (n : Nat) (v2 : Int32) (v3 : Int32) (h : zH), f_X9_reach_l34 N v0 v1 n v2 v3 h = some w → Z Γ m_X9_reach d h0 (zoI w) 34 [(0, .ref v0), (1, .int v1), (2, .int v2), (3, .int v3)] [] h := by
  intro n
  induction n with
  | zero => intro v2 v3 h hf; cases hf
  | succ n ih =>
    intro v2 v3 h hf
    rw [f_X9_reach_l34] at hf
    refine z_iload_n 3 dX9_reach_34 rfl rfl ?_
    refine z_aload_n 0 dX9_reach_35 rfl rfl ?_
    refine z_getI dX9_reach_36 zc9 (by decide) wf_X9_236 hf fun x7 hf => ?_
    refine z_icmp_ge 70 dX9_reach_39 (by decide) hf (fun hf => ?_) (fun hf => ?_)
    · refine z_iload_n 2 dX9_reach_70 rfl rfl ?_
      exact z_iret dX9_reach_71 rfl (by cases hf; rfl)
    · refine z_iload_n 2 dX9_reach_42 rfl rfl ?_
      refine z_aload_n 0 dX9_reach_43 rfl rfl ?_
      refine z_iload_n 1 dX9_reach_44 rfl rfl ?_
      refine z_aload_n 0 dX9_reach_45 rfl rfl ?_
      refine z_getA dX9_reach_46 zc9 (by decide) wf_X9_32 hf fun x8 hf => ?_
      refine z_iload_n 3 dX9_reach_49 rfl rfl ?_
      refine z_iaload dX9_reach_50 hf fun x9 hf => ?_
      refine z_cV_i (d' := d - 1) (As := [.int v1, .int x9]) (rest := [.int v2]) dX9_reach_51 lk_X9_276 rfl hf (fun w1 e1 => zc_X9_isReached (by omega) e1) (by omega) rfl rfl (Nat.le_of_ble_eq_true rfl) fun y10 hf => ?_
      refine zjn_elim (P := fun (j62 : Int32 → Int32 → Int32 → zH → Option (Int32 × zH)) => ∀ (v3 : Int32) (s0 : Int32) (s1 : Int32) (h : zH), j62 v3 s0 s1 h = some w → Z Γ m_X9_reach d h0 (zoI w) 62 [(0, .ref v0), (1, .int v1), (3, .int v3)] [.int s1, .int s0] h) hf (fun v3 s0 s1 h hf => ?_) (fun j62 hj62 hf => ?_)
      · refine z_iadd dX9_reach_62 ?_
        refine z_istore_n [(2, .int (s0 + s1)), (0, .ref v0), (1, .int v1), (3, .int v3)] dX9_reach_63 rfl (by decide) rfl ?_
        refine z_iinc (v3 + (1 : Int32)) 3 [(3, .int (v3 + (1 : Int32))), (2, .int (s0 + s1)), (0, .ref v0), (1, .int v1)] dX9_reach_64 rfl rfl (by decide) rfl ?_
        refine z_goto 34 dX9_reach_67 (by decide) ?_
        exact Z.sub [2, 3, 1, 0] rfl (ih (s0 + s1) (v3 + (1 : Int32)) h hf)
      · refine z_if_eq 61 dX9_reach_54 (by decide) hf (fun hf => ?_) (fun hf => ?_)
        · refine z_iconst (0 : Int32) dX9_reach_61 (by decide) ?_
          exact Z.sub [0, 1, 3] rfl (hj62 v3 v2 (0 : Int32) y10.2 hf)
        · refine z_iconst (1 : Int32) dX9_reach_57 (by decide) ?_
          refine z_goto 62 dX9_reach_58 (by decide) ?_
          exact Z.sub [0, 1, 3] rfl (hj62 v3 v2 (1 : Int32) y10.2 hf)
set_option maxRecDepth 4000 in
theorem zc_X9_reach {Γ : zG} {N d : Nat} (hd : 13 ≤ d) {a : Nat} {p1 : Int32} {h : zH} {w : Int32 × zH} (hf : f_X9_reach N a p1 h = some w) : Zm Γ m_X9_reach d [.ref a, .int p1] h (zoI w) := by
  unfold f_X9_reach at hf
  refine z_meth rfl (plainFor_of_name wpl_X9) (by simp [lg_sl, Value.category, zml, m_X9_reach]) ?_
  refine z_aload_n 0 dX9_reach_0 rfl rfl ?_
  refine z_iconst (0 : Int32) dX9_reach_1 (by decide) ?_
  refine z_putB dX9_reach_2 zc9 (by decide) wf_X9_46 (Or.inl rfl) rfl rfl hf fun h1 hf => ?_
  refine z_aload_n 0 dX9_reach_5 rfl rfl ?_
  refine z_iload_n 1 dX9_reach_6 rfl rfl ?_
  refine z_cV_i (d' := d - 1) (As := [.int p1]) (rest := []) dX9_reach_7 lk_X9_254 rfl hf (fun w1 e1 => zc_X9_noPlayer (by omega) e1) (by omega) rfl rfl (Nat.le_of_ble_eq_true rfl) fun y2 hf => ?_
  refine z_if_eq 15 dX9_reach_10 (by decide) hf (fun hf => ?_) (fun hf => ?_)
  · refine z_aload_n 0 dX9_reach_15 rfl rfl ?_
    refine z_iload_n 1 dX9_reach_16 rfl rfl ?_
    refine z_aload_n 0 dX9_reach_17 rfl rfl ?_
    refine z_getA dX9_reach_18 zc9 (by decide) wf_X9_17 hf fun x3 hf => ?_
    refine z_iconst (0 : Int32) dX9_reach_21 (by decide) ?_
    refine z_iaload dX9_reach_22 hf fun x4 hf => ?_
    refine z_cS_i (d' := d - 1) (As := [.int x4]) (rest := [.int p1, .ref a]) dX9_reach_23 lk_X9_54 hf (fun w1 e1 => zc_X9_neutral (by omega) e1) (by omega) rfl rfl (Nat.le_of_ble_eq_true rfl) fun y5 hf => ?_
    refine z_iconst (-1 : Int32) dX9_reach_26 (by decide) ?_
    refine z_cV_v (d' := d - 1) (As := [.int p1, .int y5.1, .int (-1 : Int32)]) (rest := []) dX9_reach_27 lk_X9_272 rfl hf (fun w1 e1 => zc_X9_layFrom (by omega) e1) (by omega) rfl rfl (Nat.le_of_ble_eq_true rfl) fun y6 hf => ?_
    refine z_iconst (0 : Int32) dX9_reach_30 (by decide) ?_
    refine z_istore_n [(2, .int (0 : Int32)), (0, .ref a), (1, .int p1)] dX9_reach_31 rfl (by decide) rfl ?_
    refine z_iconst (0 : Int32) dX9_reach_32 (by decide) ?_
    refine z_istore_n [(3, .int (0 : Int32)), (2, .int (0 : Int32)), (0, .ref a), (1, .int p1)] dX9_reach_33 rfl (by decide) rfl ?_
    refine Z.sub [2, 3, 1, 0] rfl (zl_X9_reach_34 hd  N (0 : Int32) (0 : Int32) y6 hf)
  · refine z_iconst (0 : Int32) dX9_reach_13 (by decide) ?_
    exact z_iret dX9_reach_14 rfl (by cases hf; rfl)
set_option maxRecDepth 4000 in
theorem zc_X8_reaches {Γ : zG} {N d : Nat} (hd : 14 ≤ d) {a : Nat} {p1 : Int32} {p2 : Int32} {h : zH} {w : (Int32 ⊕ Nat) × zH} (hf : f_X8_reaches N a p1 p2 h = some w) : Zm Γ m_X8_reaches d [.ref a, .int p1, .int p2] h (zoTI w) := by
  unfold f_X8_reaches at hf
  refine z_meth rfl (plainFor_of_name wpl_X8) (by simp [lg_sl, Value.category, zml, m_X8_reaches]) ?_
  refine z_aload_n 0 dX8_reaches_0 rfl rfl ?_
  refine z_iload_n 1 dX8_reaches_1 rfl rfl ?_
  refine z_cV_ta (d' := d - 1) (As := [.int p1]) (rest := []) dX8_reaches_2 lk_X8_119 rfl hf (fun w1 e1 => zc_X8_existing (by omega) e1) (by omega) rfl rfl (Nat.le_of_ble_eq_true rfl) (fun y1 x2 hf => ?_) (fun y1 k3 hf => ?_)
  · refine z_astore_n [(3, .ref x2), (0, .ref a), (1, .int p1), (2, .int p2)] dX8_reaches_5 rfl (by decide) rfl ?_
    refine z_aload_n 1 dX8_reaches_6 rfl rfl ?_
    refine z_iload_n 3 dX8_reaches_7 rfl rfl ?_
    refine z_cV_ti (d' := d - 1) (As := [.int p2]) (rest := []) dX8_reaches_8 lk_X8_164 rfl hf (fun w1 e1 => zc_X8_elementOf (by omega) e1) (by omega) rfl rfl (Nat.le_of_ble_eq_true rfl) (fun y4 x5 hf => ?_) (fun y4 k6 hf => ?_)
    · refine z_istore [(4, .int x5), (3, .ref x2), (0, .ref a), (1, .int p1), (2, .int p2)] dX8_reaches_11 (by decide) rfl ?_
      refine z_aload_n 2 dX8_reaches_13 rfl rfl ?_
      refine z_getA dX8_reaches_14 zc8 (by decide) wf_X8_42 hf fun x7 hf => ?_
      refine z_aload_n 1 dX8_reaches_17 rfl rfl ?_
      refine z_aload_n 2 dX8_reaches_18 rfl rfl ?_
      refine z_getA dX8_reaches_19 zc8 (by decide) wf_X8_28 hf fun x8 hf => ?_
      refine z_getI dX8_reaches_22 zc0 (by decide) wf_X8_86 hf fun x9 hf => ?_
      refine z_cV_v (d' := d - 1) (As := [.ref x2, .int x9]) (rest := []) dX8_reaches_25 lk_X8_176 rfl hf (fun w1 e1 => zc_X3_study (by omega) e1) (by omega) rfl rfl (Nat.le_of_ble_eq_true rfl) fun y10 hf => ?_
      refine z_aload_n 2 dX8_reaches_28 rfl rfl ?_
      refine z_getA dX8_reaches_29 zc8 (by decide) wf_X8_42 hf fun x11 hf => ?_
      refine z_iload 0 dX8_reaches_32 rfl ?_
      refine z_cV_i (d' := d - 1) (As := [.int x5]) (rest := []) dX8_reaches_34 lk_X8_183 rfl hf (fun w1 e1 => zc_X3_isReached (by omega) e1) (by omega) rfl rfl (Nat.le_of_ble_eq_true rfl) fun y12 hf => ?_
      obtain ⟨x13, hz, hf⟩ := Option.bind_eq_some_iff.mp hf
      obtain ⟨hb, rfl⟩ := zB_of hz
      exact z_zret dX8_reaches_37 rfl hb (by cases hf; rfl)
    · exact zx_out rfl (by cases hf; rfl)
  · exact zx_out rfl (by cases hf; rfl)
set_option maxRecDepth 4000 in
theorem zj_L_reaches_16 {Γ : zG} {N d : Nat} {h0 : zH} (hd : 15 ≤ d)  {s0 : Nat} {s1 : Int32} {s2 : Int64} {h : zH} {w : Int32 × zH} (hf : f_L_reaches_j16 N  s0 s1 s2 h = some w) : Z Γ m_L_reaches d h0 (zoI w) 16 [] [.long s2, .int s1, .ref s0] h := by
  unfold f_L_reaches_j16 at hf
  refine z_lastore dL_reaches_16 hf fun h4 hf => ?_
  refine z_goto 28 dL_reaches_17 (by decide) ?_
  refine z_iconst (0 : Int32) dL_reaches_28 (by decide) ?_
  exact z_iret dL_reaches_29 rfl (by cases hf; rfl)
set_option maxRecDepth 4000 in
theorem zc_L_reaches {Γ : zG} {N d : Nat} (hd : 15 ≤ d) {p1 : Nat} {p2 : Int32} {p3 : Int32} {p4 : Nat} {h : zH} {w : Int32 × zH} (hf : f_L_reaches N p1 p2 p3 p4 h = some w) : Zm Γ m_L_reaches d [.ref p1, .int p2, .int p3, .ref p4] h (zoI w) := by
  unfold f_L_reaches at hf
  refine z_methH (by decide) (by decide +kernel) (by simp [lg_sl, Value.category, zml, m_L_reaches]) ?_
  refine z_aload_n 3 dL_reaches_0 rfl rfl ?_
  refine z_iconst (0 : Int32) dL_reaches_1 (by decide) ?_
  refine z_aload_n 0 dL_reaches_2 rfl rfl ?_
  refine z_iload_n 1 dL_reaches_3 rfl rfl ?_
  refine z_iload_n 2 dL_reaches_4 rfl rfl ?_
  refine z_cV_ti (d' := d - 1) (As := [.int p2, .int p3]) (rest := [.int (0 : Int32), .ref p4]) dL_reaches_5 lk_L_48 rfl hf (fun w1 e1 => zc_X8_reaches (by omega) e1) (by omega) rfl rfl (Nat.le_of_ble_eq_true rfl) (fun y1 x2 hf => ?_) (fun y1 k3 hf => ?_)
  · refine z_if_eq 15 dL_reaches_8 (by decide) hf (fun hf => ?_) (fun hf => ?_)
    · refine z_lconst (0 : Int64) dL_reaches_15 (by decide) ?_
      exact Z.sub [] rfl (zj_L_reaches_16 hd hf)
    · refine z_lconst (1 : Int64) dL_reaches_11 (by decide) ?_
      refine z_goto 16 dL_reaches_12 (by decide) ?_
      exact Z.sub [] rfl (zj_L_reaches_16 hd hf)
  · by_cases e0 : k3 = 2
    · rw [if_pos e0] at hf
      subst e0
      refine zx_catch (by decide) [] (0, 17, 20, 22) [(0, 17, 24, 13)] rfl (fun z hz => absurd hz List.not_mem_nil) (by decide) (by decide) wc_L_22 wct_2 fun q5 => ?_
      refine z_astore [(4, .ref q5), (0, .ref p1), (1, .int p2), (2, .int p3), (3, .ref p4)] dL_reaches_20 (by decide) rfl ?_
      refine z_iconst (1 : Int32) dL_reaches_22 (by decide) ?_
      exact z_iret dL_reaches_23 rfl (by cases hf; rfl)
    · rw [if_neg e0] at hf
      by_cases e1 : k3 = 1
      · rw [if_pos e1] at hf
        subst e1
        refine zx_catch (by decide) [(0, 17, 20, 22)] (0, 17, 24, 13) [] rfl (List.forall_mem_cons.mpr ⟨⟨by decide, 2, by decide, by decide, wc_L_22⟩, fun z hz => absurd hz List.not_mem_nil⟩) (by decide) (by decide) wc_L_13 wct_1 fun q6 => ?_
        refine z_astore [(4, .ref q6), (0, .ref p1), (1, .int p2), (2, .int p3), (3, .ref p4)] dL_reaches_24 (by decide) rfl ?_
        refine z_iconst (2 : Int32) dL_reaches_26 (by decide) ?_
        exact z_iret dL_reaches_27 rfl (by cases hf; rfl)
      · rw [if_neg e1] at hf
        cases hf
set_option maxRecDepth 4000 in
theorem zc_X9_reaches {Γ : zG} {N d : Nat} (hd : 13 ≤ d) {a : Nat} {p1 : Int32} {p2 : Int32} {h : zH} {w : Int32 × zH} (hf : f_X9_reaches N a p1 p2 h = some w) : Zm Γ m_X9_reaches d [.ref a, .int p1, .int p2] h (zoI w) := by
  unfold f_X9_reaches at hf
  refine z_meth rfl (plainFor_of_name wpl_X9) (by simp [lg_sl, Value.category, zml, m_X9_reaches]) ?_
  refine z_aload_n 0 dX9_reaches_0 rfl rfl ?_
  refine z_iconst (0 : Int32) dX9_reaches_1 (by decide) ?_
  refine z_putB dX9_reaches_2 zc9 (by decide) wf_X9_46 (Or.inl rfl) rfl rfl hf fun h1 hf => ?_
  refine z_aload_n 0 dX9_reaches_5 rfl rfl ?_
  refine z_iload_n 1 dX9_reaches_6 rfl rfl ?_
  refine z_cV_i (d' := d - 1) (As := [.int p1]) (rest := []) dX9_reaches_7 lk_X9_254 rfl hf (fun w1 e1 => zc_X9_noPlayer (by omega) e1) (by omega) rfl rfl (Nat.le_of_ble_eq_true rfl) fun y2 hf => ?_
  refine z_if_ne 22 dX9_reaches_10 (by decide) hf (fun hf => ?_) (fun hf => ?_)
  · refine z_aload_n 0 dX9_reaches_13 rfl rfl ?_
    refine z_iload_n 2 dX9_reaches_14 rfl rfl ?_
    refine z_iconst (2 : Int32) dX9_reaches_15 (by decide) ?_
    refine z_cV_i (d' := d - 1) (As := [.int p2, .int (2 : Int32)]) (rest := []) dX9_reaches_16 lk_X9_266 rfl hf (fun w1 e1 => zc_X9_noElement (by omega) e1) (by omega) rfl rfl (Nat.le_of_ble_eq_true rfl) fun y3 hf => ?_
    refine z_if_eq 24 dX9_reaches_19 (by decide) hf (fun hf => ?_) (fun hf => ?_)
    · refine z_aload_n 0 dX9_reaches_24 rfl rfl ?_
      refine z_iload_n 1 dX9_reaches_25 rfl rfl ?_
      refine z_aload_n 0 dX9_reaches_26 rfl rfl ?_
      refine z_getA dX9_reaches_27 zc9 (by decide) wf_X9_17 hf fun x4 hf => ?_
      refine z_iconst (0 : Int32) dX9_reaches_30 (by decide) ?_
      refine z_iaload dX9_reaches_31 hf fun x5 hf => ?_
      refine z_cS_i (d' := d - 1) (As := [.int x5]) (rest := [.int p1, .ref a]) dX9_reaches_32 lk_X9_54 hf (fun w1 e1 => zc_X9_neutral (by omega) e1) (by omega) rfl rfl (Nat.le_of_ble_eq_true rfl) fun y6 hf => ?_
      refine z_iconst (-1 : Int32) dX9_reaches_35 (by decide) ?_
      refine z_cV_v (d' := d - 1) (As := [.int p1, .int y6.1, .int (-1 : Int32)]) (rest := []) dX9_reaches_36 lk_X9_272 rfl hf (fun w1 e1 => zc_X9_layFrom (by omega) e1) (by omega) rfl rfl (Nat.le_of_ble_eq_true rfl) fun y7 hf => ?_
      refine z_aload_n 0 dX9_reaches_39 rfl rfl ?_
      refine z_iload_n 1 dX9_reaches_40 rfl rfl ?_
      refine z_iload_n 2 dX9_reaches_41 rfl rfl ?_
      refine z_cV_i (d' := d - 1) (As := [.int p1, .int p2]) (rest := []) dX9_reaches_42 lk_X9_276 rfl hf (fun w1 e1 => zc_X9_isReached (by omega) e1) (by omega) rfl rfl (Nat.le_of_ble_eq_true rfl) fun y8 hf => ?_
      obtain ⟨x9, hz, hf⟩ := Option.bind_eq_some_iff.mp hf
      obtain ⟨hb, rfl⟩ := zB_of hz
      exact z_zret dX9_reaches_45 rfl hb (by cases hf; rfl)
    · refine z_iconst (0 : Int32) dX9_reaches_22 (by decide) ?_
      exact z_zret dX9_reaches_23 rfl (Or.inl rfl) (by cases hf; rfl)
  · refine z_iconst (0 : Int32) dX9_reaches_22 (by decide) ?_
    exact z_zret dX9_reaches_23 rfl (Or.inl rfl) (by cases hf; rfl)
set_option maxRecDepth 4000 in
theorem zc_X3_find {Γ : zG} {N d : Nat} (hd : 12 ≤ d) {a : Nat} {p1 : Int32} {h : zH} {w : zH} (hf : f_X3_find N a p1 h = some w) : Zm Γ m_X3_find d [.ref a, .int p1] h (zoV w) := by
  unfold f_X3_find at hf
  refine z_meth rfl (plainFor_of_name wpl_X3) (by simp [lg_sl, Value.category, zml, m_X3_find]) ?_
  refine z_aload_n 0 dX3_find_0 rfl rfl ?_
  refine z_sipush (256 : Int32) dX3_find_1 (by decide) ?_
  refine z_iload_n 1 dX3_find_4 rfl rfl ?_
  refine z_cV_i (d' := d - 1) (As := [.int (256 : Int32), .int p1]) (rest := []) dX3_find_5 lk_X3_100 rfl hf (fun w1 e1 => zc_X3_contains (by omega) e1) (by omega) rfl rfl (Nat.le_of_ble_eq_true rfl) fun y1 hf => ?_
  refine z_if_ne 27 dX3_find_8 (by decide) hf (fun hf => ?_) (fun hf => ?_)
  · refine z_aload_n 0 dX3_find_11 rfl rfl ?_
    refine z_sipush (256 : Int32) dX3_find_12 (by decide) ?_
    refine z_iload_n 1 dX3_find_15 rfl rfl ?_
    refine z_cV_v (d' := d - 1) (As := [.int (256 : Int32), .int p1]) (rest := []) dX3_find_16 lk_X3_36 rfl hf (fun w1 e1 => zc_X3_include (by omega) e1) (by omega) rfl rfl (Nat.le_of_ble_eq_true rfl) fun y2 hf => ?_
    refine z_aload_n 0 dX3_find_19 rfl rfl ?_
    refine z_getA dX3_find_20 zc3 (by decide) wf_X3_28 hf fun x3 hf => ?_
    refine z_iload_n 1 dX3_find_23 rfl rfl ?_
    refine z_cV_v (d' := d - 1) (As := [.int p1]) (rest := []) dX3_find_24 lk_X3_109 rfl hf (fun w1 e1 => zc_X6_push (by omega) e1) (by omega) rfl rfl (Nat.le_of_ble_eq_true rfl) fun y4 hf => ?_
    exact z_vret dX3_find_27 rfl (by cases hf; rfl)
  · exact z_vret dX3_find_27 rfl (by cases hf; rfl)
set_option maxRecDepth 4000 in
theorem zl_X3_countGenerated_40 {Γ : zG} {N d : Nat} {h0 : zH} (hd : 13 ≤ d) {v0 : Nat} {v3 : Int32} {k1 : zH → Option (Int32 × zH)} {w : Int32 × zH}  (hk1 : ∀ (h : zH), k1 h = some w → Z Γ m_X3_countGenerated d h0 (zoI w) 73 [(0, .ref v0), (3, .int v3)] [] h) : ∀ (n : Nat) (v4 : Int32) (h : zH), f_X3_countGenerated_l40 N v0 v3 k1 n v4 h = some w → Z Γ m_X3_countGenerated d h0 (zoI w) 40 [(0, .ref v0), (3, .int v3), (4, .int v4)] [] h := by
  intro n
  induction n with
  | zero => intro v4 h hf; cases hf
  | succ n ih =>
    intro v4 h hf
    rw [f_X3_countGenerated_l40] at hf
    refine z_iload 2 dX3_countGenerated_40 rfl ?_
    refine z_aload_n 0 dX3_countGenerated_42 rfl rfl ?_
    refine z_getI dX3_countGenerated_43 zc3 (by decide) wf_X3_44 hf fun x7 hf => ?_
    refine z_icmp_ge 73 dX3_countGenerated_46 (by decide) hf (fun hf => ?_) (fun hf => ?_)
    · exact Z.sub [0, 1] rfl (hk1 h hf)
    · refine z_aload_n 0 dX3_countGenerated_49 rfl rfl ?_
      refine z_aload_n 0 dX3_countGenerated_50 rfl rfl ?_
      refine z_aload_n 0 dX3_countGenerated_51 rfl rfl ?_
      refine z_getA dX3_countGenerated_52 zc3 (by decide) wf_X3_28 hf fun x8 hf => ?_
      refine z_iload_n 1 dX3_countGenerated_55 rfl rfl ?_
      refine z_cV_i (d' := d - 1) (As := [.int v3]) (rest := [.ref v0, .ref v0]) dX3_countGenerated_56 lk_X3_77 rfl hf (fun w1 e1 => zc_X6_at (by omega) e1) (by omega) rfl rfl (Nat.le_of_ble_eq_true rfl) fun y9 hf => ?_
      refine z_iload 2 dX3_countGenerated_59 rfl ?_
      refine z_cV_i (d' := d - 1) (As := [.int y9.1, .int v4]) (rest := [.ref v0]) dX3_countGenerated_61 lk_X3_93 rfl hf (fun w1 e1 => zc_X3_timesCard (by omega) e1) (by omega) rfl rfl (Nat.le_of_ble_eq_true rfl) fun y10 hf => ?_
      refine z_cV_v (d' := d - 1) (As := [.int y10.1]) (rest := []) dX3_countGenerated_64 lk_X3_106 rfl hf (fun w1 e1 => zc_X3_find (by omega) e1) (by omega) rfl rfl (Nat.le_of_ble_eq_true rfl) fun y11 hf => ?_
      refine z_iinc (v4 + (1 : Int32)) 2 [(4, .int (v4 + (1 : Int32))), (0, .ref v0), (3, .int v3)] dX3_countGenerated_67 rfl rfl (by decide) rfl ?_
      refine z_goto 40 dX3_countGenerated_70 (by decide) ?_
      exact Z.sub [1, 2, 0] rfl (ih (v4 + (1 : Int32)) y11 hf)
set_option maxRecDepth 4000 in
theorem zl_X3_countGenerated_20 {Γ : zG} {N d : Nat} {h0 : zH} (hd : 13 ≤ d) {v0 : Nat} {k1 : zH → Option (Int32 × zH)} {w : Int32 × zH}  (hk1 : ∀ (h : zH), k1 h = some w → Z Γ m_X3_countGenerated d h0 (zoI w) 79 [(0, .ref v0)] [] h) : ∀ (n : Nat) (v3 : Int32) (h : zH), f_X3_countGenerated_l20 N v0 k1 n v3 h = some w → Z Γ m_X3_countGenerated d h0 (zoI w) 20 [(0, .ref v0), (3, .int v3)] [] h := by
  intro n
  induction n with
  | zero => intro v3 h hf; cases hf
  | succ n ih =>
    intro v3 h hf
    rw [f_X3_countGenerated_l20] at hf
    refine z_iload_n 1 dX3_countGenerated_20 rfl rfl ?_
    refine z_bipush (120 : Int32) dX3_countGenerated_21 (by decide) ?_
    refine z_icmp_ge 79 dX3_countGenerated_23 (by decide) hf (fun hf => ?_) (fun hf => ?_)
    · exact Z.sub [0] rfl (hk1 h hf)
    · refine z_iload_n 1 dX3_countGenerated_26 rfl rfl ?_
      refine z_aload_n 0 dX3_countGenerated_27 rfl rfl ?_
      refine z_getA dX3_countGenerated_28 zc3 (by decide) wf_X3_28 hf fun x5 hf => ?_
      refine z_cV_i (d' := d - 1) (As := []) (rest := [.int v3]) dX3_countGenerated_31 lk_X3_61 rfl hf (fun w1 e1 => zc_X6_size (by omega) e1) (by omega) rfl rfl (Nat.le_of_ble_eq_true rfl) fun y6 hf => ?_
      refine z_icmp_ge 79 dX3_countGenerated_34 (by decide) hf (fun hf => ?_) (fun hf => ?_)
      · exact Z.sub [0] rfl (hk1 y6.2 hf)
      · refine z_iconst (0 : Int32) dX3_countGenerated_37 (by decide) ?_
        refine z_istore [(4, .int (0 : Int32)), (0, .ref v0), (3, .int v3)] dX3_countGenerated_38 (by decide) rfl ?_
        refine Z.sub [1, 2, 0] rfl (zl_X3_countGenerated_40 hd (fun h12 hf => ?_) N (0 : Int32) y6.2 hf)
        · refine z_iinc (v3 + (1 : Int32)) 1 [(3, .int (v3 + (1 : Int32))), (0, .ref v0)] dX3_countGenerated_73 rfl rfl (by decide) rfl ?_
          refine z_goto 20 dX3_countGenerated_76 (by decide) ?_
          exact Z.sub [1, 0] rfl (ih (v3 + (1 : Int32)) h12 hf)
set_option maxRecDepth 4000 in
theorem zc_X3_countGenerated {Γ : zG} {N d : Nat} (hd : 13 ≤ d) {a : Nat} {p1 : Nat} {p2 : Int32} {h : zH} {w : Int32 × zH} (hf : f_X3_countGenerated N a p1 p2 h = some w) : Zm Γ m_X3_countGenerated d [.ref a, .ref p1, .int p2] h (zoI w) := by
  unfold f_X3_countGenerated at hf
  refine z_meth rfl (plainFor_of_name wpl_X3) (by simp [lg_sl, Value.category, zml, m_X3_countGenerated]) ?_
  refine z_aload_n 0 dX3_countGenerated_0 rfl rfl ?_
  refine z_aload_n 1 dX3_countGenerated_1 rfl rfl ?_
  refine z_iload_n 2 dX3_countGenerated_2 rfl rfl ?_
  refine z_cV_v (d' := d - 1) (As := [.ref p1, .int p2]) (rest := []) dX3_countGenerated_3 lk_X3_32 rfl hf (fun w1 e1 => zc_X3_takeHand (by omega) e1) (by omega) rfl rfl (Nat.le_of_ble_eq_true rfl) fun y1 hf => ?_
  refine z_aload_n 0 dX3_countGenerated_6 rfl rfl ?_
  refine z_getA dX3_countGenerated_7 zc3 (by decide) wf_X3_28 hf fun x2 hf => ?_
  refine z_cV_v (d' := d - 1) (As := []) (rest := []) dX3_countGenerated_10 lk_X3_103 rfl hf (fun w1 e1 => zc_X6_clear (by omega) e1) (by omega) rfl rfl (Nat.le_of_ble_eq_true rfl) fun y3 hf => ?_
  refine z_aload_n 0 dX3_countGenerated_13 rfl rfl ?_
  refine z_iconst (0 : Int32) dX3_countGenerated_14 (by decide) ?_
  refine z_cV_v (d' := d - 1) (As := [.int (0 : Int32)]) (rest := []) dX3_countGenerated_15 lk_X3_106 rfl hf (fun w1 e1 => zc_X3_find (by omega) e1) (by omega) rfl rfl (Nat.le_of_ble_eq_true rfl) fun y4 hf => ?_
  refine z_iconst (0 : Int32) dX3_countGenerated_18 (by decide) ?_
  refine z_istore_n [(3, .int (0 : Int32)), (0, .ref a), (1, .ref p1), (2, .int p2)] dX3_countGenerated_19 rfl (by decide) rfl ?_
  refine Z.sub [1, 0] rfl (zl_X3_countGenerated_20 hd (fun h13 hf => ?_) N (0 : Int32) y4 hf)
  · refine z_aload_n 0 dX3_countGenerated_79 rfl rfl ?_
    refine z_getA dX3_countGenerated_80 zc3 (by decide) wf_X3_28 hf fun x14 hf => ?_
    refine z_cV_i (d' := d - 1) (As := []) (rest := []) dX3_countGenerated_83 lk_X3_61 rfl hf (fun w1 e1 => zc_X6_size (by omega) e1) (by omega) rfl rfl (Nat.le_of_ble_eq_true rfl) fun y15 hf => ?_
    exact z_iret dX3_countGenerated_86 rfl (by cases hf; rfl)
set_option maxRecDepth 4000 in
theorem zc_X8_generated {Γ : zG} {N d : Nat} (hd : 14 ≤ d) {a : Nat} {p1 : Int32} {h : zH} {w : (Int32 ⊕ Nat) × zH} (hf : f_X8_generated N a p1 h = some w) : Zm Γ m_X8_generated d [.ref a, .int p1] h (zoTI w) := by
  unfold f_X8_generated at hf
  refine z_meth rfl (plainFor_of_name wpl_X8) (by simp [lg_sl, Value.category, zml, m_X8_generated]) ?_
  refine z_aload_n 0 dX8_generated_0 rfl rfl ?_
  refine z_getA dX8_generated_1 zc8 (by decide) wf_X8_42 hf fun x1 hf => ?_
  refine z_aload_n 0 dX8_generated_4 rfl rfl ?_
  refine z_iload_n 1 dX8_generated_5 rfl rfl ?_
  refine z_cV_ta (d' := d - 1) (As := [.int p1]) (rest := [.ref x1]) dX8_generated_6 lk_X8_119 rfl hf (fun w1 e1 => zc_X8_existing (by omega) e1) (by omega) rfl rfl (Nat.le_of_ble_eq_true rfl) (fun y2 x3 hf => ?_) (fun y2 k4 hf => ?_)
  · refine z_aload_n 0 dX8_generated_9 rfl rfl ?_
    refine z_getA dX8_generated_10 zc8 (by decide) wf_X8_28 hf fun x5 hf => ?_
    refine z_getI dX8_generated_13 zc0 (by decide) wf_X8_86 hf fun x6 hf => ?_
    refine z_cV_i (d' := d - 1) (As := [.ref x3, .int x6]) (rest := []) dX8_generated_16 lk_X8_186 rfl hf (fun w1 e1 => zc_X3_countGenerated (by omega) e1) (by omega) rfl rfl (Nat.le_of_ble_eq_true rfl) fun y7 hf => ?_
    exact z_iret dX8_generated_19 rfl (by cases hf; rfl)
  · exact zx_out rfl (by cases hf; rfl)
set_option maxRecDepth 4000 in
theorem zc_L_generated {Γ : zG} {N d : Nat} (hd : 15 ≤ d) {p1 : Nat} {p2 : Int32} {p3 : Nat} {h : zH} {w : Int32 × zH} (hf : f_L_generated N p1 p2 p3 h = some w) : Zm Γ m_L_generated d [.ref p1, .int p2, .ref p3] h (zoI w) := by
  unfold f_L_generated at hf
  refine z_methH (by decide) (by decide +kernel) (by simp [lg_sl, Value.category, zml, m_L_generated]) ?_
  refine z_aload_n 2 dL_generated_0 rfl rfl ?_
  refine z_iconst (0 : Int32) dL_generated_1 (by decide) ?_
  refine z_aload_n 0 dL_generated_2 rfl rfl ?_
  refine z_iload_n 1 dL_generated_3 rfl rfl ?_
  refine z_cV_ti (d' := d - 1) (As := [.int p2]) (rest := [.int (0 : Int32), .ref p3]) dL_generated_4 lk_L_52 rfl hf (fun w1 e1 => zc_X8_generated (by omega) e1) (by omega) rfl rfl (Nat.le_of_ble_eq_true rfl) (fun y1 x2 hf => ?_) (fun y1 k3 hf => ?_)
  · refine z_i2l dL_generated_7 ?_
    refine z_lastore dL_generated_8 hf fun h4 hf => ?_
    refine z_goto 15 dL_generated_9 (by decide) ?_
    refine z_iconst (0 : Int32) dL_generated_15 (by decide) ?_
    exact z_iret dL_generated_16 rfl (by cases hf; rfl)
  · by_cases e0 : k3 = 2
    · rw [if_pos e0] at hf
      subst e0
      refine zx_catch (by decide) [] (0, 9, 12, 22) [] rfl (fun z hz => absurd hz List.not_mem_nil) (by decide) (by decide) wc_L_22 wct_2 fun q5 => ?_
      refine z_astore_n [(3, .ref q5), (0, .ref p1), (1, .int p2), (2, .ref p3)] dL_generated_12 rfl (by decide) rfl ?_
      refine z_iconst (1 : Int32) dL_generated_13 (by decide) ?_
      exact z_iret dL_generated_14 rfl (by cases hf; rfl)
    · rw [if_neg e0] at hf
      cases hf
set_option maxRecDepth 4000 in
theorem zl_X9_generated_21 {Γ : zG} {N d : Nat} {h0 : zH} (hd : 12 ≤ d) {v0 : Nat} {v1 : Int32} {k1 : zH → Option (Int32 × zH)} {w : Int32 × zH}  (hk1 : ∀ (h : zH), k1 h = some w → Z Γ m_X9_generated d h0 (zoI w) 40 [(0, .ref v0), (1, .int v1)] [] h) : ∀ (n : Nat) (v2 : Int32) (h : zH), f_X9_generated_l21 N v0 v1 k1 n v2 h = some w → Z Γ m_X9_generated d h0 (zoI w) 21 [(0, .ref v0), (1, .int v1), (2, .int v2)] [] h := by
  intro n
  induction n with
  | zero => intro v2 h hf; cases hf
  | succ n ih =>
    intro v2 h hf
    rw [f_X9_generated_l21] at hf
    refine z_iload_n 2 dX9_generated_21 rfl rfl ?_
    refine z_bipush (120 : Int32) dX9_generated_22 (by decide) ?_
    refine z_icmp_ge 40 dX9_generated_24 (by decide) hf (fun hf => ?_) (fun hf => ?_)
    · exact Z.sub [0, 1] rfl (hk1 h hf)
    · refine z_aload_n 0 dX9_generated_27 rfl rfl ?_
      refine z_getA dX9_generated_28 zc9 (by decide) wf_X9_39 hf fun x4 hf => ?_
      refine z_iload_n 2 dX9_generated_31 rfl rfl ?_
      refine z_iconst (0 : Int32) dX9_generated_32 (by decide) ?_
      refine z_bastore dX9_generated_33 hf fun h5 hf => ?_
      refine z_iinc (v2 + (1 : Int32)) 2 [(2, .int (v2 + (1 : Int32))), (0, .ref v0), (1, .int v1)] dX9_generated_34 rfl rfl (by decide) rfl ?_
      refine z_goto 21 dX9_generated_37 (by decide) ?_
      exact Z.sub [1, 2, 0] rfl (ih (v2 + (1 : Int32)) h5 hf)
set_option maxRecDepth 4000 in
theorem zl_X9_generated_82 {Γ : zG} {N d : Nat} {h0 : zH} (hd : 12 ≤ d) {v0 : Nat} {v1 : Int32} {v3 : Int32} {k1 : Int32 → zH → Option (Int32 × zH)} {w : Int32 × zH}  (hk1 : ∀ (v2 : Int32) (h : zH), k1 v2 h = some w → Z Γ m_X9_generated d h0 (zoI w) 162 [(0, .ref v0), (1, .int v1), (2, .int v2), (3, .int v3)] [] h) : ∀ (n : Nat) (v2 : Int32) (v4 : Int32) (h : zH), f_X9_generated_l82 N v0 v1 v3 k1 n v2 v4 h = some w → Z Γ m_X9_generated d h0 (zoI w) 82 [(0, .ref v0), (1, .int v1), (2, .int v2), (3, .int v3), (4, .int v4)] [] h := by
  intro n
  induction n with
  | zero => intro v2 v4 h hf; cases hf
  | succ n ih =>
    intro v2 v4 h hf
    rw [f_X9_generated_l82] at hf
    refine z_iload 4 dX9_generated_82 rfl ?_
    refine z_aload_n 0 dX9_generated_84 rfl rfl ?_
    refine z_iload_n 1 dX9_generated_85 rfl rfl ?_
    refine z_cV_i (d' := d - 1) (As := [.int v1]) (rest := [.int v4]) dX9_generated_86 lk_X9_242 rfl hf (fun w1 e1 => zc_X9_cardsOf (by omega) e1) (by omega) rfl rfl (Nat.le_of_ble_eq_true rfl) fun y17 hf => ?_
    refine z_icmp_ge 162 dX9_generated_89 (by decide) hf (fun hf => ?_) (fun hf => ?_)
    · exact Z.sub [0, 1, 2, 3] rfl (hk1 v2 y17.2 hf)
    · refine z_aload_n 0 dX9_generated_92 rfl rfl ?_
      refine z_getA dX9_generated_93 zc9 (by decide) wf_X9_43 hf fun x18 hf => ?_
      refine z_iload_n 3 dX9_generated_96 rfl rfl ?_
      refine z_iaload dX9_generated_97 hf fun x19 hf => ?_
      refine z_aload_n 0 dX9_generated_98 rfl rfl ?_
      refine z_iload_n 1 dX9_generated_99 rfl rfl ?_
      refine z_iload 4 dX9_generated_100 rfl ?_
      refine z_cV_i (d' := d - 1) (As := [.int v1, .int v4]) (rest := [.int x19]) dX9_generated_102 lk_X9_221 rfl hf (fun w1 e1 => zc_X9_elementOf (by omega) e1) (by omega) rfl rfl (Nat.le_of_ble_eq_true rfl) fun y20 hf => ?_
      refine z_aload_n 0 dX9_generated_105 rfl rfl ?_
      refine z_getI dX9_generated_106 zc9 (by decide) wf_X9_233 hf fun x21 hf => ?_
      refine z_cS_i (d' := d - 1) (As := [.int x19, .int y20.1, .int x21]) (rest := []) dX9_generated_109 lk_X9_58 hf (fun w1 e1 => zc_X9_times (by omega) e1) (by omega) rfl rfl (Nat.le_of_ble_eq_true rfl) fun y22 hf => ?_
      refine z_istore [(5, .int y22.1), (0, .ref v0), (1, .int v1), (2, .int v2), (3, .int v3), (4, .int v4)] dX9_generated_112 (by decide) rfl ?_
      refine z_aload_n 1 dX9_generated_114 rfl rfl ?_
      refine z_getA dX9_generated_115 zc9 (by decide) wf_X9_39 hf fun x23 hf => ?_
      refine z_aload_n 1 dX9_generated_118 rfl rfl ?_
      refine z_getA dX9_generated_119 zc9 (by decide) wf_X9_36 hf fun x24 hf => ?_
      refine z_iload 0 dX9_generated_122 rfl ?_
      refine z_iaload dX9_generated_124 hf fun x25 hf => ?_
      refine z_baload dX9_generated_125 hf fun x26 hf => ?_
      refine zjn_elim (P := fun (j156 : Int32 → Int32 → zH → Option (Int32 × zH)) => ∀ (v2 : Int32) (v4 : Int32) (h : zH), j156 v2 v4 h = some w → Z Γ m_X9_generated d h0 (zoI w) 156 [(0, .ref v0), (1, .int v1), (2, .int v2), (3, .int v3), (4, .int v4)] [] h) hf (fun v2 v4 h hf => ?_) (fun j156 hj156 hf => ?_)
      · refine z_iinc (v4 + (1 : Int32)) 4 [(4, .int (v4 + (1 : Int32))), (0, .ref v0), (1, .int v1), (2, .int v2), (3, .int v3)] dX9_generated_156 rfl rfl (by decide) rfl ?_
        refine z_goto 82 dX9_generated_159 (by decide) ?_
        exact Z.sub [1, 2, 3, 4, 0] rfl (ih v2 (v4 + (1 : Int32)) h hf)
      · refine z_if_eq 132 dX9_generated_126 (by decide) hf (fun hf => ?_) (fun hf => ?_)
        · refine z_aload_n 1 dX9_generated_132 rfl rfl ?_
          refine z_getA dX9_generated_133 zc9 (by decide) wf_X9_39 hf fun x27 hf => ?_
          refine z_aload_n 1 dX9_generated_136 rfl rfl ?_
          refine z_getA dX9_generated_137 zc9 (by decide) wf_X9_36 hf fun x28 hf => ?_
          refine z_iload 0 dX9_generated_140 rfl ?_
          refine z_iaload dX9_generated_142 hf fun x29 hf => ?_
          refine z_iconst (1 : Int32) dX9_generated_143 (by decide) ?_
          refine z_bastore dX9_generated_144 hf fun h30 hf => ?_
          refine z_aload_n 1 dX9_generated_145 rfl rfl ?_
          refine z_getA dX9_generated_146 zc9 (by decide) wf_X9_43 hf fun x31 hf => ?_
          refine z_iload_n 3 dX9_generated_149 rfl rfl ?_
          refine z_iload 0 dX9_generated_150 rfl ?_
          refine z_iastore dX9_generated_152 hf fun h32 hf => ?_
          refine z_iinc (v2 + (1 : Int32)) 3 [(2, .int (v2 + (1 : Int32))), (5, .int y22.1), (0, .ref v0), (1, .int v1), (3, .int v3), (4, .int v4)] dX9_generated_153 rfl rfl (by decide) rfl ?_
          exact Z.sub [2, 3, 0, 4, 5] rfl (hj156 (v2 + (1 : Int32)) v4 h32 hf)
        · refine z_goto 156 dX9_generated_129 (by decide) ?_
          exact Z.sub [1, 2, 3, 4, 5] rfl (hj156 v2 v4 y22.2 hf)
set_option maxRecDepth 4000 in
theorem zl_X9_generated_74 {Γ : zG} {N d : Nat} {h0 : zH} (hd : 12 ≤ d) {v0 : Nat} {v1 : Int32}  {w : Int32 × zH}   : ∀ (n : Nat) (v2 : Int32) (v3 : Int32) (h : zH), f_X9_generated_l74 N v0 v1 n v2 v3 h = some w → Z Γ m_X9_generated d h0 (zoI w) 74 [(0, .ref v0), (1, .int v1), (2, .int v2), (3, .int v3)] [] h := by
  intro n
  induction n with
  | zero => intro v2 v3 h hf; cases hf
  | succ n ih =>
    intro v2 v3 h hf
    rw [f_X9_generated_l74] at hf
    refine z_iload_n 3 dX9_generated_74 rfl rfl ?_
    refine z_iload_n 2 dX9_generated_75 rfl rfl ?_
    refine z_icmp_ge 168 dX9_generated_76 (by decide) hf (fun hf => ?_) (fun hf => ?_)
    · refine z_iload_n 2 dX9_generated_168 rfl rfl ?_
      exact z_iret dX9_generated_169 rfl (by cases hf; rfl)
    · refine z_iconst (0 : Int32) dX9_generated_79 (by decide) ?_
      refine z_istore [(4, .int (0 : Int32)), (0, .ref v0), (1, .int v1), (2, .int v2), (3, .int v3)] dX9_generated_80 (by decide) rfl ?_
      refine Z.sub [1, 2, 3, 4, 0] rfl (zl_X9_generated_82 hd (fun u33 h34 hf => ?_) N v2 (0 : Int32) h hf)
      · refine z_iinc (v3 + (1 : Int32)) 3 [(3, .int (v3 + (1 : Int32))), (0, .ref v0), (1, .int v1), (2, .int u33)] dX9_generated_162 rfl rfl (by decide) rfl ?_
        refine z_goto 74 dX9_generated_165 (by decide) ?_
        exact Z.sub [1, 2, 3, 0] rfl (ih u33 (v3 + (1 : Int32)) h34 hf)
set_option maxRecDepth 4000 in
theorem zc_X9_generated {Γ : zG} {N d : Nat} (hd : 12 ≤ d) {a : Nat} {p1 : Int32} {h : zH} {w : Int32 × zH} (hf : f_X9_generated N a p1 h = some w) : Zm Γ m_X9_generated d [.ref a, .int p1] h (zoI w) := by
  unfold f_X9_generated at hf
  refine z_meth rfl (plainFor_of_name wpl_X9) (by simp [lg_sl, Value.category, zml, m_X9_generated]) ?_
  refine z_aload_n 0 dX9_generated_0 rfl rfl ?_
  refine z_iconst (0 : Int32) dX9_generated_1 (by decide) ?_
  refine z_putB dX9_generated_2 zc9 (by decide) wf_X9_46 (Or.inl rfl) rfl rfl hf fun h1 hf => ?_
  refine z_aload_n 0 dX9_generated_5 rfl rfl ?_
  refine z_iload_n 1 dX9_generated_6 rfl rfl ?_
  refine z_cV_i (d' := d - 1) (As := [.int p1]) (rest := []) dX9_generated_7 lk_X9_254 rfl hf (fun w1 e1 => zc_X9_noPlayer (by omega) e1) (by omega) rfl rfl (Nat.le_of_ble_eq_true rfl) fun y2 hf => ?_
  refine z_if_eq 15 dX9_generated_10 (by decide) hf (fun hf => ?_) (fun hf => ?_)
  · refine z_aload_n 0 dX9_generated_15 rfl rfl ?_
    refine z_cV_v (d' := d - 1) (As := []) (rest := []) dX9_generated_16 lk_X9_239 rfl hf (fun w1 e1 => zc_X9_layGroup (by omega) e1) (by omega) rfl rfl (Nat.le_of_ble_eq_true rfl) fun y3 hf => ?_
    refine z_iconst (0 : Int32) dX9_generated_19 (by decide) ?_
    refine z_istore_n [(2, .int (0 : Int32)), (0, .ref a), (1, .int p1)] dX9_generated_20 rfl (by decide) rfl ?_
    refine Z.sub [1, 2, 0] rfl (zl_X9_generated_21 hd (fun h6 hf => ?_) N (0 : Int32) y3 hf)
    · refine z_aload_n 0 dX9_generated_40 rfl rfl ?_
      refine z_getA dX9_generated_41 zc9 (by decide) wf_X9_43 hf fun x7 hf => ?_
      refine z_iconst (0 : Int32) dX9_generated_44 (by decide) ?_
      refine z_aload_n 0 dX9_generated_45 rfl rfl ?_
      refine z_getI dX9_generated_46 zc9 (by decide) wf_X9_233 hf fun x8 hf => ?_
      refine z_cS_i (d' := d - 1) (As := [.int x8]) (rest := [.int (0 : Int32), .ref x7]) dX9_generated_49 lk_X9_54 hf (fun w1 e1 => zc_X9_neutral (by omega) e1) (by omega) rfl rfl (Nat.le_of_ble_eq_true rfl) fun y9 hf => ?_
      refine z_iastore dX9_generated_52 hf fun h10 hf => ?_
      refine z_aload_n 0 dX9_generated_53 rfl rfl ?_
      refine z_getA dX9_generated_54 zc9 (by decide) wf_X9_39 hf fun x11 hf => ?_
      refine z_aload_n 0 dX9_generated_57 rfl rfl ?_
      refine z_getA dX9_generated_58 zc9 (by decide) wf_X9_36 hf fun x12 hf => ?_
      refine z_aload_n 0 dX9_generated_61 rfl rfl ?_
      refine z_getA dX9_generated_62 zc9 (by decide) wf_X9_43 hf fun x13 hf => ?_
      refine z_iconst (0 : Int32) dX9_generated_65 (by decide) ?_
      refine z_iaload dX9_generated_66 hf fun x14 hf => ?_
      refine z_iaload dX9_generated_67 hf fun x15 hf => ?_
      refine z_iconst (1 : Int32) dX9_generated_68 (by decide) ?_
      refine z_bastore dX9_generated_69 hf fun h16 hf => ?_
      refine z_iconst (1 : Int32) dX9_generated_70 (by decide) ?_
      refine z_istore_n [(2, .int (1 : Int32)), (0, .ref a), (1, .int p1)] dX9_generated_71 rfl (by decide) rfl ?_
      refine z_iconst (0 : Int32) dX9_generated_72 (by decide) ?_
      refine z_istore_n [(3, .int (0 : Int32)), (2, .int (1 : Int32)), (0, .ref a), (1, .int p1)] dX9_generated_73 rfl (by decide) rfl ?_
      refine Z.sub [2, 3, 1, 0] rfl (zl_X9_generated_74 hd  N (1 : Int32) (0 : Int32) h16 hf)
  · refine z_iconst (0 : Int32) dX9_generated_13 (by decide) ?_
    exact z_iret dX9_generated_14 rfl (by cases hf; rfl)

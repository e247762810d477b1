set_option maxRecDepth 4000 in
theorem zl_X8_checksum_4 {Γ : zG} {N d : Nat} {h0 : zH} (hd : 16 ≤ d) {v0 : Nat} {k1 : Int64 → zH → Option ((Int64 ⊕ Nat) × zH)} {w : (Int64 ⊕ Nat) × zH}  (hk1 : ∀ (v1 : Int64) (h : zH), k1 v1 h = some w → Z Γ m_X8_checksum d h0 (zoTJ w) 29 [(0, .ref v0), (1, .long v1)] [] h) : ∀ (n : Nat) (v1 : Int64) (v3 : Int32) (h : zH), f_X8_checksum_l4 N v0 k1 n v1 v3 h = some w → Z Γ m_X8_checksum d h0 (zoTJ w) 4 [(0, .ref v0), (1, .long v1), (3, .int v3)] [] h := by
  intro n
  induction n with
  | zero => intro v1 v3 h hf; cases hf
  | succ n ih =>
    intro v1 v3 h hf
    rw [f_X8_checksum_l4] at hf
    refine z_iload_n 2 dX8_checksum_4 rfl rfl ?_
    refine z_bipush (8 : Int32) dX8_checksum_5 (by decide) ?_
    refine z_icmp_gt 29 dX8_checksum_7 (by decide) hf (fun hf => ?_) (fun hf => ?_)
    · exact Z.sub [0, 1] rfl (hk1 v1 h hf)
    · refine z_ldc2 (31 : Int64) dX8_checksum_10 wk_X8_232 ?_
      refine z_lload_n 1 dX8_checksum_13 rfl rfl ?_
      refine z_lmul dX8_checksum_14 ?_
      refine z_aload_n 0 dX8_checksum_15 rfl rfl ?_
      refine z_iload_n 2 dX8_checksum_16 rfl rfl ?_
      refine z_cV_ti (d' := d - 1) (As := [.int v3]) (rest := [.long ((31 : Int64) * v1)]) dX8_checksum_17 lk_X8_234 rfl hf (fun w1 e1 => zc_X8_state (by omega) e1) (by omega) rfl rfl (Nat.le_of_ble_eq_true rfl) (fun y1 x2 hf => ?_) (fun y1 k3 hf => ?_)
      · refine z_i2l dX8_checksum_20 ?_
        refine z_ladd dX8_checksum_21 ?_
        refine z_lstore_n [(1, .long (((31 : Int64) * v1) + x2.toInt64)), (0, .ref v0), (3, .int v3)] dX8_checksum_22 rfl (by decide) rfl ?_
        refine z_iinc (v3 + (1 : Int32)) 2 [(3, .int (v3 + (1 : Int32))), (1, .long (((31 : Int64) * v1) + x2.toInt64)), (0, .ref v0)] dX8_checksum_23 rfl rfl (by decide) rfl ?_
        refine z_goto 4 dX8_checksum_26 (by decide) ?_
        exact Z.sub [2, 1, 0] rfl (ih (((31 : Int64) * v1) + x2.toInt64) (v3 + (1 : Int32)) y1.2 hf)
      · exact zx_out rfl (by cases hf; rfl)
set_option maxRecDepth 4000 in
theorem zl_X8_checksum_31 {Γ : zG} {N d : Nat} {h0 : zH} (hd : 16 ≤ d) {v0 : Nat} {k1 : Int64 → zH → Option ((Int64 ⊕ Nat) × zH)} {w : (Int64 ⊕ Nat) × zH}  (hk1 : ∀ (v1 : Int64) (h : zH), k1 v1 h = some w → Z Γ m_X8_checksum d h0 (zoTJ w) 55 [(0, .ref v0), (1, .long v1)] [] h) : ∀ (n : Nat) (v1 : Int64) (v3 : Int32) (h : zH), f_X8_checksum_l31 N v0 k1 n v1 v3 h = some w → Z Γ m_X8_checksum d h0 (zoTJ w) 31 [(0, .ref v0), (1, .long v1), (3, .int v3)] [] h := by
  intro n
  induction n with
  | zero => intro v1 v3 h hf; cases hf
  | succ n ih =>
    intro v1 v3 h hf
    rw [f_X8_checksum_l31] at hf
    refine z_iload_n 2 dX8_checksum_31 rfl rfl ?_
    refine z_aload_n 0 dX8_checksum_32 rfl rfl ?_
    refine z_getA dX8_checksum_33 zc8 (by decide) wf_X8_28 hf fun x6 hf => ?_
    refine z_getI dX8_checksum_36 zc0 (by decide) wf_X8_83 hf fun x7 hf => ?_
    refine z_icmp_ge 55 dX8_checksum_39 (by decide) hf (fun hf => ?_) (fun hf => ?_)
    · exact Z.sub [0, 1] rfl (hk1 v1 h hf)
    · refine z_aload_n 0 dX8_checksum_42 rfl rfl ?_
      refine z_lload_n 1 dX8_checksum_43 rfl rfl ?_
      refine z_iload_n 2 dX8_checksum_44 rfl rfl ?_
      refine z_cV_tj (d' := d - 1) (As := [.long v1, .int v3]) (rest := []) dX8_checksum_45 lk_X8_237 rfl hf (fun w1 e1 => zc_X8_withPlayer (by omega) e1) (by omega) rfl rfl (Nat.le_of_ble_eq_true rfl) (fun y8 x9 hf => ?_) (fun y8 k10 hf => ?_)
      · refine z_lstore_n [(1, .long x9), (0, .ref v0), (3, .int v3)] dX8_checksum_48 rfl (by decide) rfl ?_
        refine z_iinc (v3 + (1 : Int32)) 2 [(3, .int (v3 + (1 : Int32))), (1, .long x9), (0, .ref v0)] dX8_checksum_49 rfl rfl (by decide) rfl ?_
        refine z_goto 31 dX8_checksum_52 (by decide) ?_
        exact Z.sub [2, 1, 0] rfl (ih x9 (v3 + (1 : Int32)) y8.2 hf)
      · exact zx_out rfl (by cases hf; rfl)
set_option maxRecDepth 4000 in
theorem zl_X8_checksum_74 {Γ : zG} {N d : Nat} {h0 : zH} (hd : 16 ≤ d) {v0 : Nat} {v3 : Int32} {k1 : Int64 → zH → Option ((Int64 ⊕ Nat) × zH)} {w : (Int64 ⊕ Nat) × zH}  (hk1 : ∀ (v1 : Int64) (h : zH), k1 v1 h = some w → Z Γ m_X8_checksum d h0 (zoTJ w) 101 [(0, .ref v0), (1, .long v1), (3, .int v3)] [] h) : ∀ (n : Nat) (v1 : Int64) (v4 : Int32) (h : zH), f_X8_checksum_l74 N v0 v3 k1 n v1 v4 h = some w → Z Γ m_X8_checksum d h0 (zoTJ w) 74 [(0, .ref v0), (1, .long v1), (3, .int v3), (4, .int v4)] [] h := by
  intro n
  induction n with
  | zero => intro v1 v4 h hf; cases hf
  | succ n ih =>
    intro v1 v4 h hf
    rw [f_X8_checksum_l74] at hf
    refine z_iload 3 dX8_checksum_74 rfl ?_
    refine z_iconst (2 : Int32) dX8_checksum_76 (by decide) ?_
    refine z_icmp_gt 101 dX8_checksum_77 (by decide) hf (fun hf => ?_) (fun hf => ?_)
    · exact Z.sub [0, 1, 2] rfl (hk1 v1 h hf)
    · refine z_ldc2 (31 : Int64) dX8_checksum_80 wk_X8_232 ?_
      refine z_lload_n 1 dX8_checksum_83 rfl rfl ?_
      refine z_lmul dX8_checksum_84 ?_
      refine z_aload_n 0 dX8_checksum_85 rfl rfl ?_
      refine z_iload_n 2 dX8_checksum_86 rfl rfl ?_
      refine z_iload 3 dX8_checksum_87 rfl ?_
      refine z_cV_ti (d' := d - 1) (As := [.int v3, .int v4]) (rest := [.long ((31 : Int64) * v1)]) dX8_checksum_89 lk_X8_241 rfl hf (fun w1 e1 => zc_X8_bid (by omega) e1) (by omega) rfl rfl (Nat.le_of_ble_eq_true rfl) (fun y16 x17 hf => ?_) (fun y16 k18 hf => ?_)
      · refine z_i2l dX8_checksum_92 ?_
        refine z_ladd dX8_checksum_93 ?_
        refine z_lstore_n [(1, .long (((31 : Int64) * v1) + x17.toInt64)), (0, .ref v0), (3, .int v3), (4, .int v4)] dX8_checksum_94 rfl (by decide) rfl ?_
        refine z_iinc (v4 + (1 : Int32)) 3 [(4, .int (v4 + (1 : Int32))), (1, .long (((31 : Int64) * v1) + x17.toInt64)), (0, .ref v0), (3, .int v3)] dX8_checksum_95 rfl rfl (by decide) rfl ?_
        refine z_goto 74 dX8_checksum_98 (by decide) ?_
        exact Z.sub [2, 1, 3, 0] rfl (ih (((31 : Int64) * v1) + x17.toInt64) (v4 + (1 : Int32)) y16.2 hf)
      · exact zx_out rfl (by cases hf; rfl)
set_option maxRecDepth 4000 in
theorem zl_X8_checksum_57 {Γ : zG} {N d : Nat} {h0 : zH} (hd : 16 ≤ d) {v0 : Nat} {k1 : Int64 → zH → Option ((Int64 ⊕ Nat) × zH)} {w : (Int64 ⊕ Nat) × zH}  (hk1 : ∀ (v1 : Int64) (h : zH), k1 v1 h = some w → Z Γ m_X8_checksum d h0 (zoTJ w) 107 [(0, .ref v0), (1, .long v1)] [] h) : ∀ (n : Nat) (v1 : Int64) (v3 : Int32) (h : zH), f_X8_checksum_l57 N v0 k1 n v1 v3 h = some w → Z Γ m_X8_checksum d h0 (zoTJ w) 57 [(0, .ref v0), (1, .long v1), (3, .int v3)] [] h := by
  intro n
  induction n with
  | zero => intro v1 v3 h hf; cases hf
  | succ n ih =>
    intro v1 v3 h hf
    rw [f_X8_checksum_l57] at hf
    refine z_iload_n 2 dX8_checksum_57 rfl rfl ?_
    refine z_aload_n 0 dX8_checksum_58 rfl rfl ?_
    refine z_getA dX8_checksum_59 zc8 (by decide) wf_X8_28 hf fun x13 hf => ?_
    refine z_getA dX8_checksum_62 zc0 (by decide) wf_X8_107 hf fun x14 hf => ?_
    refine z_cV_i (d' := d - 1) (As := []) (rest := [.int v3]) dX8_checksum_65 lk_X8_93 rfl hf (fun w1 e1 => zc_X6_size (by omega) e1) (by omega) rfl rfl (Nat.le_of_ble_eq_true rfl) fun y15 hf => ?_
    refine z_icmp_ge 107 dX8_checksum_68 (by decide) hf (fun hf => ?_) (fun hf => ?_)
    · exact Z.sub [0, 1] rfl (hk1 v1 y15.2 hf)
    · refine z_iconst (0 : Int32) dX8_checksum_71 (by decide) ?_
      refine z_istore [(4, .int (0 : Int32)), (0, .ref v0), (1, .long v1), (3, .int v3)] dX8_checksum_72 (by decide) rfl ?_
      refine Z.sub [1, 2, 3, 0] rfl (zl_X8_checksum_74 hd (fun u19 h20 hf => ?_) N v1 (0 : Int32) y15.2 hf)
      · refine z_iinc (v3 + (1 : Int32)) 2 [(3, .int (v3 + (1 : Int32))), (0, .ref v0), (1, .long u19)] dX8_checksum_101 rfl rfl (by decide) rfl ?_
        refine z_goto 57 dX8_checksum_104 (by decide) ?_
        exact Z.sub [1, 2, 0] rfl (ih u19 (v3 + (1 : Int32)) h20 hf)
set_option maxRecDepth 4000 in
theorem zc_X8_checksum {Γ : zG} {N d : Nat} (hd : 16 ≤ d) {a : Nat} {h : zH} {w : (Int64 ⊕ Nat) × zH} (hf : f_X8_checksum N a h = some w) : Zm Γ m_X8_checksum d [.ref a] h (zoTJ w) := by
  unfold f_X8_checksum at hf
  refine z_meth rfl (plainFor_of_name wpl_X8) (by simp [lg_sl, Value.category, zml, m_X8_checksum]) ?_
  refine z_lconst (0 : Int64) dX8_checksum_0 (by decide) ?_
  refine z_lstore_n [(1, .long (0 : Int64)), (0, .ref a)] dX8_checksum_1 rfl (by decide) rfl ?_
  refine z_iconst (0 : Int32) dX8_checksum_2 (by decide) ?_
  refine z_istore_n [(3, .int (0 : Int32)), (1, .long (0 : Int64)), (0, .ref a)] dX8_checksum_3 rfl (by decide) rfl ?_
  refine Z.sub [2, 1, 0] rfl (zl_X8_checksum_4 hd (fun u4 h5 hf => ?_) N (0 : Int64) (0 : Int32) h hf)
  · refine z_iconst (0 : Int32) dX8_checksum_29 (by decide) ?_
    refine z_istore_n [(3, .int (0 : Int32)), (0, .ref a), (1, .long u4)] dX8_checksum_30 rfl (by decide) rfl ?_
    refine Z.sub [1, 2, 0] rfl (zl_X8_checksum_31 hd (fun u11 h12 hf => ?_) N u4 (0 : Int32) h5 hf)
    · refine z_iconst (0 : Int32) dX8_checksum_55 (by decide) ?_
      refine z_istore_n [(3, .int (0 : Int32)), (0, .ref a), (1, .long u11)] dX8_checksum_56 rfl (by decide) rfl ?_
      refine Z.sub [1, 2, 0] rfl (zl_X8_checksum_57 hd (fun u21 h22 hf => ?_) N u11 (0 : Int32) h12 hf)
      · refine z_ldc2 (31 : Int64) dX8_checksum_107 wk_X8_232 ?_
        refine z_lload_n 1 dX8_checksum_110 rfl rfl ?_
        refine z_lmul dX8_checksum_111 ?_
        refine z_aload_n 0 dX8_checksum_112 rfl rfl ?_
        refine z_cV_i (d' := d - 1) (As := []) (rest := [.long ((31 : Int64) * u21)]) dX8_checksum_113 lk_X8_244 rfl hf (fun w1 e1 => zc_X8_product (by omega) e1) (by omega) rfl rfl (Nat.le_of_ble_eq_true rfl) fun y23 hf => ?_
        refine z_i2l dX8_checksum_116 ?_
        refine z_ladd dX8_checksum_117 ?_
        exact z_lret dX8_checksum_118 rfl (by cases hf; rfl)
set_option maxRecDepth 4000 in
theorem zl_X9_checksum_9 {Γ : zG} {N d : Nat} {h0 : zH} (hd : 15 ≤ d) {v0 : Nat} {k1 : Int64 → zH → Option (Int64 × zH)} {w : Int64 × zH}  (hk1 : ∀ (v1 : Int64) (h : zH), k1 v1 h = some w → Z Γ m_X9_checksum d h0 (zoJ w) 34 [(0, .ref v0), (1, .long v1)] [] h) : ∀ (n : Nat) (v1 : Int64) (v3 : Int32) (h : zH), f_X9_checksum_l9 N v0 k1 n v1 v3 h = some w → Z Γ m_X9_checksum d h0 (zoJ w) 9 [(0, .ref v0), (1, .long v1), (3, .int v3)] [] h := by
  intro n
  induction n with
  | zero => intro v1 v3 h hf; cases hf
  | succ n ih =>
    intro v1 v3 h hf
    rw [f_X9_checksum_l9] at hf
    refine z_iload_n 2 dX9_checksum_9 rfl rfl ?_
    refine z_bipush (8 : Int32) dX9_checksum_10 (by decide) ?_
    refine z_icmp_gt 34 dX9_checksum_12 (by decide) hf (fun hf => ?_) (fun hf => ?_)
    · exact Z.sub [0, 1] rfl (hk1 v1 h hf)
    · refine z_ldc2 (31 : Int64) dX9_checksum_15 wk_X9_310 ?_
      refine z_lload_n 1 dX9_checksum_18 rfl rfl ?_
      refine z_lmul dX9_checksum_19 ?_
      refine z_aload_n 0 dX9_checksum_20 rfl rfl ?_
      refine z_iload_n 2 dX9_checksum_21 rfl rfl ?_
      refine z_cV_i (d' := d - 1) (As := [.int v3]) (rest := [.long ((31 : Int64) * v1)]) dX9_checksum_22 lk_X9_251 rfl hf (fun w1 e1 => zc_X9_told (by omega) e1) (by omega) rfl rfl (Nat.le_of_ble_eq_true rfl) fun y2 hf => ?_
      refine z_i2l dX9_checksum_25 ?_
      refine z_ladd dX9_checksum_26 ?_
      refine z_lstore_n [(1, .long (((31 : Int64) * v1) + y2.1.toInt64)), (0, .ref v0), (3, .int v3)] dX9_checksum_27 rfl (by decide) rfl ?_
      refine z_iinc (v3 + (1 : Int32)) 2 [(3, .int (v3 + (1 : Int32))), (1, .long (((31 : Int64) * v1) + y2.1.toInt64)), (0, .ref v0)] dX9_checksum_28 rfl rfl (by decide) rfl ?_
      refine z_goto 9 dX9_checksum_31 (by decide) ?_
      exact Z.sub [2, 1, 0] rfl (ih (((31 : Int64) * v1) + y2.1.toInt64) (v3 + (1 : Int32)) y2.2 hf)
set_option maxRecDepth 4000 in
theorem zl_X9_checksum_49 {Γ : zG} {N d : Nat} {h0 : zH} (hd : 15 ≤ d) {v0 : Nat} {v3 : Int32} {k1 : Int64 → zH → Option (Int64 × zH)} {w : Int64 × zH}  (hk1 : ∀ (v1 : Int64) (h : zH), k1 v1 h = some w → Z Γ m_X9_checksum d h0 (zoJ w) 81 [(0, .ref v0), (1, .long v1), (3, .int v3)] [] h) : ∀ (n : Nat) (v1 : Int64) (v4 : Int32) (h : zH), f_X9_checksum_l49 N v0 v3 k1 n v1 v4 h = some w → Z Γ m_X9_checksum d h0 (zoJ w) 49 [(0, .ref v0), (1, .long v1), (3, .int v3), (4, .int v4)] [] h := by
  intro n
  induction n with
  | zero => intro v1 v4 h hf; cases hf
  | succ n ih =>
    intro v1 v4 h hf
    rw [f_X9_checksum_l49] at hf
    refine z_iload 3 dX9_checksum_49 rfl ?_
    refine z_iconst (3 : Int32) dX9_checksum_51 (by decide) ?_
    refine z_icmp_ge 81 dX9_checksum_52 (by decide) hf (fun hf => ?_) (fun hf => ?_)
    · exact Z.sub [0, 1, 2] rfl (hk1 v1 h hf)
    · refine z_ldc2 (31 : Int64) dX9_checksum_55 wk_X9_310 ?_
      refine z_lload_n 1 dX9_checksum_58 rfl rfl ?_
      refine z_lmul dX9_checksum_59 ?_
      refine z_aload_n 0 dX9_checksum_60 rfl rfl ?_
      refine z_getA dX9_checksum_61 zc9 (by decide) wf_X9_17 hf fun x7 hf => ?_
      refine z_iload_n 2 dX9_checksum_64 rfl rfl ?_
      refine z_cS_i (d' := d - 1) (As := [.int v3]) (rest := [.ref x7, .long ((31 : Int64) * v1)]) dX9_checksum_65 lk_X9_201 hf (fun w1 e1 => zc_X9_at (by omega) e1) (by omega) rfl rfl (Nat.le_of_ble_eq_true rfl) fun y8 hf => ?_
      refine z_iload 3 dX9_checksum_68 rfl ?_
      refine z_iadd dX9_checksum_70 ?_
      refine z_iaload dX9_checksum_71 hf fun x9 hf => ?_
      refine z_i2l dX9_checksum_72 ?_
      refine z_ladd dX9_checksum_73 ?_
      refine z_lstore_n [(1, .long (((31 : Int64) * v1) + x9.toInt64)), (0, .ref v0), (3, .int v3), (4, .int v4)] dX9_checksum_74 rfl (by decide) rfl ?_
      refine z_iinc (v4 + (1 : Int32)) 3 [(4, .int (v4 + (1 : Int32))), (1, .long (((31 : Int64) * v1) + x9.toInt64)), (0, .ref v0), (3, .int v3)] dX9_checksum_75 rfl rfl (by decide) rfl ?_
      refine z_goto 49 dX9_checksum_78 (by decide) ?_
      exact Z.sub [2, 1, 3, 0] rfl (ih (((31 : Int64) * v1) + x9.toInt64) (v4 + (1 : Int32)) y8.2 hf)
set_option maxRecDepth 4000 in
theorem zl_X9_checksum_97 {Γ : zG} {N d : Nat} {h0 : zH} (hd : 15 ≤ d) {v0 : Nat} {v3 : Int32} {v4 : Int32} {k1 : Int64 → zH → Option (Int64 × zH)} {w : Int64 × zH}  (hk1 : ∀ (v1 : Int64) (h : zH), k1 v1 h = some w → Z Γ m_X9_checksum d h0 (zoJ w) 126 [(0, .ref v0), (1, .long v1), (3, .int v3), (4, .int v4)] [] h) : ∀ (n : Nat) (v1 : Int64) (v5 : Int32) (h : zH), f_X9_checksum_l97 N v0 v3 v4 k1 n v1 v5 h = some w → Z Γ m_X9_checksum d h0 (zoJ w) 97 [(0, .ref v0), (1, .long v1), (3, .int v3), (4, .int v4), (5, .int v5)] [] h := by
  intro n
  induction n with
  | zero => intro v1 v5 h hf; cases hf
  | succ n ih =>
    intro v1 v5 h hf
    rw [f_X9_checksum_l97] at hf
    refine z_iload 4 dX9_checksum_97 rfl ?_
    refine z_iconst (3 : Int32) dX9_checksum_99 (by decide) ?_
    refine z_icmp_ge 126 dX9_checksum_100 (by decide) hf (fun hf => ?_) (fun hf => ?_)
    · exact Z.sub [0, 1, 2, 3] rfl (hk1 v1 h hf)
    · refine z_ldc2 (31 : Int64) dX9_checksum_103 wk_X9_310 ?_
      refine z_lload_n 1 dX9_checksum_106 rfl rfl ?_
      refine z_lmul dX9_checksum_107 ?_
      refine z_aload_n 0 dX9_checksum_108 rfl rfl ?_
      refine z_iload_n 2 dX9_checksum_109 rfl rfl ?_
      refine z_iload 3 dX9_checksum_110 rfl ?_
      refine z_iload 4 dX9_checksum_112 rfl ?_
      refine z_cV_i (d' := d - 1) (As := [.int v3, .int v4, .int v5]) (rest := [.long ((31 : Int64) * v1)]) dX9_checksum_114 lk_X9_260 rfl hf (fun w1 e1 => zc_X9_toldCard (by omega) e1) (by omega) rfl rfl (Nat.le_of_ble_eq_true rfl) fun y13 hf => ?_
      refine z_i2l dX9_checksum_117 ?_
      refine z_ladd dX9_checksum_118 ?_
      refine z_lstore_n [(1, .long (((31 : Int64) * v1) + y13.1.toInt64)), (0, .ref v0), (3, .int v3), (4, .int v4), (5, .int v5)] dX9_checksum_119 rfl (by decide) rfl ?_
      refine z_iinc (v5 + (1 : Int32)) 4 [(5, .int (v5 + (1 : Int32))), (1, .long (((31 : Int64) * v1) + y13.1.toInt64)), (0, .ref v0), (3, .int v3), (4, .int v4)] dX9_checksum_120 rfl rfl (by decide) rfl ?_
      refine z_goto 97 dX9_checksum_123 (by decide) ?_
      exact Z.sub [2, 1, 3, 4, 0] rfl (ih (((31 : Int64) * v1) + y13.1.toInt64) (v5 + (1 : Int32)) y13.2 hf)
set_option maxRecDepth 4000 in
theorem zl_X9_checksum_84 {Γ : zG} {N d : Nat} {h0 : zH} (hd : 15 ≤ d) {v0 : Nat} {v3 : Int32} {k1 : Int64 → zH → Option (Int64 × zH)} {w : Int64 × zH}  (hk1 : ∀ (v1 : Int64) (h : zH), k1 v1 h = some w → Z Γ m_X9_checksum d h0 (zoJ w) 132 [(0, .ref v0), (1, .long v1), (3, .int v3)] [] h) : ∀ (n : Nat) (v1 : Int64) (v4 : Int32) (h : zH), f_X9_checksum_l84 N v0 v3 k1 n v1 v4 h = some w → Z Γ m_X9_checksum d h0 (zoJ w) 84 [(0, .ref v0), (1, .long v1), (3, .int v3), (4, .int v4)] [] h := by
  intro n
  induction n with
  | zero => intro v1 v4 h hf; cases hf
  | succ n ih =>
    intro v1 v4 h hf
    rw [f_X9_checksum_l84] at hf
    refine z_iload 3 dX9_checksum_84 rfl ?_
    refine z_aload_n 0 dX9_checksum_86 rfl rfl ?_
    refine z_iload_n 2 dX9_checksum_87 rfl rfl ?_
    refine z_cV_i (d' := d - 1) (As := [.int v3]) (rest := [.int v4]) dX9_checksum_88 lk_X9_242 rfl hf (fun w1 e1 => zc_X9_cardsOf (by omega) e1) (by omega) rfl rfl (Nat.le_of_ble_eq_true rfl) fun y12 hf => ?_
    refine z_icmp_ge 132 dX9_checksum_91 (by decide) hf (fun hf => ?_) (fun hf => ?_)
    · exact Z.sub [0, 1, 2] rfl (hk1 v1 y12.2 hf)
    · refine z_iconst (0 : Int32) dX9_checksum_94 (by decide) ?_
      refine z_istore [(5, .int (0 : Int32)), (0, .ref v0), (1, .long v1), (3, .int v3), (4, .int v4)] dX9_checksum_95 (by decide) rfl ?_
      refine Z.sub [1, 2, 3, 4, 0] rfl (zl_X9_checksum_97 hd (fun u14 h15 hf => ?_) N v1 (0 : Int32) y12.2 hf)
      · refine z_iinc (v4 + (1 : Int32)) 3 [(4, .int (v4 + (1 : Int32))), (0, .ref v0), (1, .long u14), (3, .int v3)] dX9_checksum_126 rfl rfl (by decide) rfl ?_
        refine z_goto 84 dX9_checksum_129 (by decide) ?_
        exact Z.sub [1, 2, 3, 0] rfl (ih u14 (v4 + (1 : Int32)) h15 hf)
set_option maxRecDepth 4000 in
theorem zl_X9_checksum_36 {Γ : zG} {N d : Nat} {h0 : zH} (hd : 15 ≤ d) {v0 : Nat} {k1 : Int64 → zH → Option (Int64 × zH)} {w : Int64 × zH}  (hk1 : ∀ (v1 : Int64) (h : zH), k1 v1 h = some w → Z Γ m_X9_checksum d h0 (zoJ w) 138 [(0, .ref v0), (1, .long v1)] [] h) : ∀ (n : Nat) (v1 : Int64) (v3 : Int32) (h : zH), f_X9_checksum_l36 N v0 k1 n v1 v3 h = some w → Z Γ m_X9_checksum d h0 (zoJ w) 36 [(0, .ref v0), (1, .long v1), (3, .int v3)] [] h := by
  intro n
  induction n with
  | zero => intro v1 v3 h hf; cases hf
  | succ n ih =>
    intro v1 v3 h hf
    rw [f_X9_checksum_l36] at hf
    refine z_iload_n 2 dX9_checksum_36 rfl rfl ?_
    refine z_aload_n 0 dX9_checksum_37 rfl rfl ?_
    refine z_getA dX9_checksum_38 zc9 (by decide) wf_X9_17 hf fun x5 hf => ?_
    refine z_iconst (1 : Int32) dX9_checksum_41 (by decide) ?_
    refine z_iaload dX9_checksum_42 hf fun x6 hf => ?_
    refine z_icmp_ge 138 dX9_checksum_43 (by decide) hf (fun hf => ?_) (fun hf => ?_)
    · exact Z.sub [0, 1] rfl (hk1 v1 h hf)
    · refine z_iconst (0 : Int32) dX9_checksum_46 (by decide) ?_
      refine z_istore [(4, .int (0 : Int32)), (0, .ref v0), (1, .long v1), (3, .int v3)] dX9_checksum_47 (by decide) rfl ?_
      refine Z.sub [1, 2, 3, 0] rfl (zl_X9_checksum_49 hd (fun u10 h11 hf => ?_) N v1 (0 : Int32) h hf)
      · refine z_iconst (0 : Int32) dX9_checksum_81 (by decide) ?_
        refine z_istore [(4, .int (0 : Int32)), (0, .ref v0), (1, .long u10), (3, .int v3)] dX9_checksum_82 (by decide) rfl ?_
        refine Z.sub [1, 2, 3, 0] rfl (zl_X9_checksum_84 hd (fun u16 h17 hf => ?_) N u10 (0 : Int32) h11 hf)
        · refine z_iinc (v3 + (1 : Int32)) 2 [(3, .int (v3 + (1 : Int32))), (0, .ref v0), (1, .long u16)] dX9_checksum_132 rfl rfl (by decide) rfl ?_
          refine z_goto 36 dX9_checksum_135 (by decide) ?_
          exact Z.sub [1, 2, 0] rfl (ih u16 (v3 + (1 : Int32)) h17 hf)
set_option maxRecDepth 4000 in
theorem zl_X9_checksum_140 {Γ : zG} {N d : Nat} {h0 : zH} (hd : 15 ≤ d) {v0 : Nat} {k1 : Int64 → zH → Option (Int64 × zH)} {w : Int64 × zH}  (hk1 : ∀ (v1 : Int64) (h : zH), k1 v1 h = some w → Z Γ m_X9_checksum d h0 (zoJ w) 175 [(0, .ref v0), (1, .long v1)] [] h) : ∀ (n : Nat) (v1 : Int64) (v3 : Int32) (h : zH), f_X9_checksum_l140 N v0 k1 n v1 v3 h = some w → Z Γ m_X9_checksum d h0 (zoJ w) 140 [(0, .ref v0), (1, .long v1), (3, .int v3)] [] h := by
  intro n
  induction n with
  | zero => intro v1 v3 h hf; cases hf
  | succ n ih =>
    intro v1 v3 h hf
    rw [f_X9_checksum_l140] at hf
    refine z_iload_n 2 dX9_checksum_140 rfl rfl ?_
    refine z_iconst (3 : Int32) dX9_checksum_141 (by decide) ?_
    refine z_aload_n 0 dX9_checksum_142 rfl rfl ?_
    refine z_getA dX9_checksum_143 zc9 (by decide) wf_X9_17 hf fun x20 hf => ?_
    refine z_iconst (5 : Int32) dX9_checksum_146 (by decide) ?_
    refine z_iaload dX9_checksum_147 hf fun x21 hf => ?_
    refine z_imul dX9_checksum_148 ?_
    refine z_icmp_ge 175 dX9_checksum_149 (by decide) hf (fun hf => ?_) (fun hf => ?_)
    · exact Z.sub [0, 1] rfl (hk1 v1 h hf)
    · refine z_ldc2 (31 : Int64) dX9_checksum_152 wk_X9_310 ?_
      refine z_lload_n 1 dX9_checksum_155 rfl rfl ?_
      refine z_lmul dX9_checksum_156 ?_
      refine z_aload_n 0 dX9_checksum_157 rfl rfl ?_
      refine z_getA dX9_checksum_158 zc9 (by decide) wf_X9_17 hf fun x22 hf => ?_
      refine z_bipush (118 : Int32) dX9_checksum_161 (by decide) ?_
      refine z_iload_n 2 dX9_checksum_163 rfl rfl ?_
      refine z_iadd dX9_checksum_164 ?_
      refine z_iaload dX9_checksum_165 hf fun x23 hf => ?_
      refine z_i2l dX9_checksum_166 ?_
      refine z_ladd dX9_checksum_167 ?_
      refine z_lstore_n [(1, .long (((31 : Int64) * v1) + x23.toInt64)), (0, .ref v0), (3, .int v3)] dX9_checksum_168 rfl (by decide) rfl ?_
      refine z_iinc (v3 + (1 : Int32)) 2 [(3, .int (v3 + (1 : Int32))), (1, .long (((31 : Int64) * v1) + x23.toInt64)), (0, .ref v0)] dX9_checksum_169 rfl rfl (by decide) rfl ?_
      refine z_goto 140 dX9_checksum_172 (by decide) ?_
      exact Z.sub [2, 1, 0] rfl (ih (((31 : Int64) * v1) + x23.toInt64) (v3 + (1 : Int32)) h hf)
set_option maxRecDepth 4000 in
theorem zc_X9_checksum {Γ : zG} {N d : Nat} (hd : 15 ≤ d) {a : Nat} {h : zH} {w : Int64 × zH} (hf : f_X9_checksum N a h = some w) : Zm Γ m_X9_checksum d [.ref a] h (zoJ w) := by
  unfold f_X9_checksum at hf
  refine z_meth rfl (plainFor_of_name wpl_X9) (by simp [lg_sl, Value.category, zml, m_X9_checksum]) ?_
  refine z_aload_n 0 dX9_checksum_0 rfl rfl ?_
  refine z_iconst (0 : Int32) dX9_checksum_1 (by decide) ?_
  refine z_putB dX9_checksum_2 zc9 (by decide) wf_X9_46 (Or.inl rfl) rfl rfl hf fun h1 hf => ?_
  refine z_lconst (0 : Int64) dX9_checksum_5 (by decide) ?_
  refine z_lstore_n [(1, .long (0 : Int64)), (0, .ref a)] dX9_checksum_6 rfl (by decide) rfl ?_
  refine z_iconst (0 : Int32) dX9_checksum_7 (by decide) ?_
  refine z_istore_n [(3, .int (0 : Int32)), (1, .long (0 : Int64)), (0, .ref a)] dX9_checksum_8 rfl (by decide) rfl ?_
  refine Z.sub [2, 1, 0] rfl (zl_X9_checksum_9 hd (fun u3 h4 hf => ?_) N (0 : Int64) (0 : Int32) h1 hf)
  · refine z_iconst (0 : Int32) dX9_checksum_34 (by decide) ?_
    refine z_istore_n [(3, .int (0 : Int32)), (0, .ref a), (1, .long u3)] dX9_checksum_35 rfl (by decide) rfl ?_
    refine Z.sub [1, 2, 0] rfl (zl_X9_checksum_36 hd (fun u18 h19 hf => ?_) N u3 (0 : Int32) h4 hf)
    · refine z_iconst (0 : Int32) dX9_checksum_138 (by decide) ?_
      refine z_istore_n [(3, .int (0 : Int32)), (0, .ref a), (1, .long u18)] dX9_checksum_139 rfl (by decide) rfl ?_
      refine Z.sub [1, 2, 0] rfl (zl_X9_checksum_140 hd (fun u24 h25 hf => ?_) N u18 (0 : Int32) h19 hf)
      · refine z_ldc2 (31 : Int64) dX9_checksum_175 wk_X9_310 ?_
        refine z_lload_n 1 dX9_checksum_178 rfl rfl ?_
        refine z_lmul dX9_checksum_179 ?_
        refine z_aload_n 0 dX9_checksum_180 rfl rfl ?_
        refine z_cV_i (d' := d - 1) (As := []) (rest := [.long ((31 : Int64) * u24)]) dX9_checksum_181 lk_X9_263 rfl hf (fun w1 e1 => zc_X9_productNow (by omega) e1) (by omega) rfl rfl (Nat.le_of_ble_eq_true rfl) fun y26 hf => ?_
        refine z_i2l dX9_checksum_184 ?_
        refine z_ladd dX9_checksum_185 ?_
        exact z_lret dX9_checksum_186 rfl (by cases hf; rfl)
set_option maxRecDepth 4000 in
theorem zl_L_law_23 {Γ : zG} {N d : Nat} {h0 : zH} {L : Nat} {xs : Nat → Int32} {sb : Nat} (hG : Γ.2.2.2.2 = (sb, L, xs)) (hd : 106 ≤ d) {v1 : Nat} {v2 : Nat} {v3 : Nat}  {w : (Int32 ⊕ Nat) × zH}   : ∀ (n : Nat) (v4 : Int32) (h : zH), f_L_law_l23 N L xs v1 v2 v3 n v4 h = some w → Z Γ m_L_law d h0 (zoTI w) 23 [(0, .ref sb), (1, .ref v1), (2, .ref v2), (3, .ref v3), (4, .int v4)] [] h := by
  intro n
  induction n with
  | zero => intro v4 h hf; cases hf
  | succ n ih =>
    intro v4 h hf
    rw [f_L_law_l23] at hf
    refine z_iload 4 dL_law_23 rfl ?_
    refine z_aload_n 0 dL_law_25 rfl rfl ?_
    refine z_slen hG dL_law_26 ?_
    refine z_bipush (6 : Int32) dL_law_27 (by decide) ?_
    refine z_isub dL_law_29 ?_
    refine z_icmp_gt 1535 dL_law_30 (by decide) hf (fun hf => ?_) (fun hf => ?_)
    · refine z_iconst (1 : Int32) dL_law_1535 (by decide) ?_
      exact z_zret dL_law_1536 rfl (Or.inr rfl) (by cases hf; rfl)
    · refine z_aload_n 0 dL_law_33 rfl rfl ?_
      refine z_iload 4 dL_law_34 rfl ?_
      refine z_sldB hG dL_law_36 hf fun x7 hf => ?_
      refine z_bipush (31 : Int32) dL_law_37 (by decide) ?_
      refine z_iand dL_law_39 ?_
      refine zjn_elim (P := fun (j1529 : Int32 → zH → Option ((Int32 ⊕ Nat) × zH)) => ∀ (v4 : Int32) (h : zH), j1529 v4 h = some w → Z Γ m_L_law d h0 (zoTI w) 1529 [(0, .ref sb), (1, .ref v1), (2, .ref v2), (3, .ref v3), (4, .int v4)] [] h) hf (fun v4 h hf => ?_) (fun j1529 hj1529 hf => ?_)
      · refine z_iinc (v4 + (6 : Int32)) 4 [(4, .int (v4 + (6 : Int32))), (0, .ref sb), (1, .ref v1), (2, .ref v2), (3, .ref v3)] dL_law_1529 rfl rfl (by decide) rfl ?_
        refine z_goto 23 dL_law_1532 (by decide) ?_
        exact Z.sub [1, 2, 3, 4, 0] rfl (ih (v4 + (6 : Int32)) h hf)
      · by_cases c0 : (x7 &&& (31 : Int32)) = (0 : Int32)
        · rw [if_pos c0] at hf
          refine z_tableIn 156 dL_law_40 (by rw [c0]; decide) (by rw [c0]; decide) (by rw [c0]; rfl) (by decide) ?_
          refine z_aload_n 1 dL_law_156 rfl rfl ?_
          refine z_aload_n 0 dL_law_157 rfl rfl ?_
          refine z_iload 4 dL_law_158 rfl ?_
          refine z_iconst (1 : Int32) dL_law_160 (by decide) ?_
          refine z_iadd dL_law_161 ?_
          refine z_sldB hG dL_law_162 hf fun x8 hf => ?_
          refine z_aload_n 0 dL_law_163 rfl rfl ?_
          refine z_iload 4 dL_law_164 rfl ?_
          refine z_iconst (2 : Int32) dL_law_166 (by decide) ?_
          refine z_iadd dL_law_167 ?_
          refine z_sldB hG dL_law_168 hf fun x9 hf => ?_
          refine z_aload_n 0 dL_law_169 rfl rfl ?_
          refine z_iload 4 dL_law_170 rfl ?_
          refine z_iconst (3 : Int32) dL_law_172 (by decide) ?_
          refine z_iadd dL_law_173 ?_
          refine z_sldB hG dL_law_174 hf fun x10 hf => ?_
          refine z_aload_n 0 dL_law_175 rfl rfl ?_
          refine z_iload 4 dL_law_176 rfl ?_
          refine z_iconst (4 : Int32) dL_law_178 (by decide) ?_
          refine z_iadd dL_law_179 ?_
          refine z_sldB hG dL_law_180 hf fun x11 hf => ?_
          refine z_aload_n 0 dL_law_181 rfl rfl ?_
          refine z_iload 4 dL_law_182 rfl ?_
          refine z_iconst (5 : Int32) dL_law_184 (by decide) ?_
          refine z_iadd dL_law_185 ?_
          refine z_sldB hG dL_law_186 hf fun x12 hf => ?_
          refine z_cV_i (d' := d - 1) (As := [.int x8, .int x9, .int x10, .int x11, .int x12]) (rest := []) dL_law_187 lk_L_86 rfl hf (fun w1 e1 => zc_X8_append (by omega) e1) (by omega) rfl rfl (Nat.le_of_ble_eq_true rfl) fun y13 hf => ?_
          refine z_aload_n 2 dL_law_190 rfl rfl ?_
          refine z_aload_n 0 dL_law_191 rfl rfl ?_
          refine z_iload 4 dL_law_192 rfl ?_
          refine z_iconst (1 : Int32) dL_law_194 (by decide) ?_
          refine z_iadd dL_law_195 ?_
          refine z_sldB hG dL_law_196 hf fun x14 hf => ?_
          refine z_aload_n 0 dL_law_197 rfl rfl ?_
          refine z_iload 4 dL_law_198 rfl ?_
          refine z_iconst (2 : Int32) dL_law_200 (by decide) ?_
          refine z_iadd dL_law_201 ?_
          refine z_sldB hG dL_law_202 hf fun x15 hf => ?_
          refine z_aload_n 0 dL_law_203 rfl rfl ?_
          refine z_iload 4 dL_law_204 rfl ?_
          refine z_iconst (3 : Int32) dL_law_206 (by decide) ?_
          refine z_iadd dL_law_207 ?_
          refine z_sldB hG dL_law_208 hf fun x16 hf => ?_
          refine z_aload_n 0 dL_law_209 rfl rfl ?_
          refine z_iload 4 dL_law_210 rfl ?_
          refine z_iconst (4 : Int32) dL_law_212 (by decide) ?_
          refine z_iadd dL_law_213 ?_
          refine z_sldB hG dL_law_214 hf fun x17 hf => ?_
          refine z_aload_n 0 dL_law_215 rfl rfl ?_
          refine z_iload 4 dL_law_216 rfl ?_
          refine z_iconst (5 : Int32) dL_law_218 (by decide) ?_
          refine z_iadd dL_law_219 ?_
          refine z_sldB hG dL_law_220 hf fun x18 hf => ?_
          refine z_cV_i (d' := d - 1) (As := [.int x14, .int x15, .int x16, .int x17, .int x18]) (rest := [.int y13.1]) dL_law_221 lk_L_90 rfl hf (fun w1 e1 => zc_X9_append (by omega) e1) (by omega) rfl rfl (Nat.le_of_ble_eq_true rfl) fun y19 hf => ?_
          refine z_icmp_eq 1529 dL_law_224 (by decide) hf (fun hf => ?_) (fun hf => ?_)
          · exact Z.sub [0, 1, 2, 3, 4] rfl (hj1529 v4 y19.2 hf)
          · refine z_iconst (0 : Int32) dL_law_227 (by decide) ?_
            exact z_zret dL_law_228 rfl (Or.inl rfl) (by cases hf; rfl)
        · rw [if_neg c0] at hf
          by_cases c1 : (x7 &&& (31 : Int32)) = (1 : Int32)
          · rw [if_pos c1] at hf
            refine z_tableIn 229 dL_law_40 (by rw [c1]; decide) (by rw [c1]; decide) (by rw [c1]; rfl) (by decide) ?_
            refine z_aload_n 1 dL_law_229 rfl rfl ?_
            refine z_aload_n 0 dL_law_230 rfl rfl ?_
            refine z_iload 4 dL_law_231 rfl ?_
            refine z_iconst (1 : Int32) dL_law_233 (by decide) ?_
            refine z_iadd dL_law_234 ?_
            refine z_sldB hG dL_law_235 hf fun x20 hf => ?_
            refine z_aload_n 3 dL_law_236 rfl rfl ?_
            refine z_cW_i (d' := d - 1) (As := [.ref v1, .int x20, .ref v3]) (rest := []) dL_law_237 lk_L_91 hf (fun w1 e1 => zc_L_load (by omega) e1) (by omega) rfl rfl (Nat.le_of_ble_eq_true rfl) fun y21 hf => ?_
            refine z_istore [(5, .int y21.1), (0, .ref sb), (1, .ref v1), (2, .ref v2), (3, .ref v3), (4, .int v4)] dL_law_240 (by decide) rfl ?_
            refine z_aload_n 3 dL_law_242 rfl rfl ?_
            refine z_aload_n 1 dL_law_243 rfl rfl ?_
            refine z_iload 5 dL_law_244 rfl ?_
            refine z_iconst (1 : Int32) dL_law_246 (by decide) ?_
            refine z_iadd dL_law_247 ?_
            refine z_sldB hG dL_law_248 hf fun x22 hf => ?_
            refine z_cV_i (d' := d - 1) (As := [.int x22]) (rest := []) dL_law_249 lk_L_96 rfl hf (fun w1 e1 => zc_X9_load (by omega) e1) (by omega) rfl rfl (Nat.le_of_ble_eq_true rfl) fun y23 hf => ?_
            refine z_istore [(6, .int y23.1), (5, .int y21.1), (0, .ref sb), (1, .ref v1), (2, .ref v2), (3, .ref v3), (4, .int v4)] dL_law_252 (by decide) rfl ?_
            refine z_aload_n 4 dL_law_254 rfl rfl ?_
            refine z_cV_i (d' := d - 1) (As := []) (rest := []) dL_law_255 lk_L_97 rfl hf (fun w1 e1 => zc_X9_thrown (by omega) e1) (by omega) rfl rfl (Nat.le_of_ble_eq_true rfl) fun y24 hf => ?_
            refine z_iload 1 dL_law_258 rfl ?_
            refine z_icmp_eq 265 dL_law_260 (by decide) hf (fun hf => ?_) (fun hf => ?_)
            · refine z_iload 1 dL_law_265 rfl ?_
              refine zjn_elim (P := fun (j282 : Int32 → zH → Option ((Int32 ⊕ Nat) × zH)) => ∀ (v4 : Int32) (h : zH), j282 v4 h = some w → Z Γ m_L_law d h0 (zoTI w) 282 [(0, .ref sb), (1, .ref v1), (2, .ref v2), (3, .ref v3), (4, .int v4)] [] h) hf (fun v4 h hf => ?_) (fun j282 hj282 hf => ?_)
              · refine z_goto 1529 dL_law_282 (by decide) ?_
                exact Z.sub [0, 1, 2, 3, 4] rfl (hj1529 v4 h hf)
              · refine z_if_ne 282 dL_law_267 (by decide) hf (fun hf => ?_) (fun hf => ?_)
                · refine z_aload_n 5 dL_law_270 rfl rfl ?_
                  refine z_iconst (0 : Int32) dL_law_271 (by decide) ?_
                  refine z_laload dL_law_272 hf fun x25 hf => ?_
                  refine z_iload 0 dL_law_273 rfl ?_
                  refine z_i2l dL_law_275 ?_
                  refine z_lcmp dL_law_276 ?_
                  refine z_if_eq 282 dL_law_277 (by decide) hf (fun hf => ?_) (fun hf => ?_)
                  · exact Z.sub [2, 3, 4, 5, 6] rfl (hj282 v4 y24.2 hf)
                  · refine z_iconst (0 : Int32) dL_law_280 (by decide) ?_
                    exact z_zret dL_law_281 rfl (Or.inl rfl) (by cases hf; rfl)
                · exact Z.sub [2, 3, 4, 5, 6] rfl (hj282 v4 y24.2 hf)
            · refine z_iconst (0 : Int32) dL_law_263 (by decide) ?_
              exact z_zret dL_law_264 rfl (Or.inl rfl) (by cases hf; rfl)
          · rw [if_neg c1] at hf
            by_cases c2 : (x7 &&& (31 : Int32)) = (2 : Int32)
            · rw [if_pos c2] at hf
              refine z_tableIn 285 dL_law_40 (by rw [c2]; decide) (by rw [c2]; decide) (by rw [c2]; rfl) (by decide) ?_
              refine z_aload_n 1 dL_law_285 rfl rfl ?_
              refine z_cV_i (d' := d - 1) (As := []) (rest := []) dL_law_286 lk_L_100 rfl hf (fun w1 e1 => zc_X8_errorOffset (by omega) e1) (by omega) rfl rfl (Nat.le_of_ble_eq_true rfl) fun y26 hf => ?_
              refine z_aload_n 2 dL_law_289 rfl rfl ?_
              refine z_cV_i (d' := d - 1) (As := []) (rest := [.int y26.1]) dL_law_290 lk_L_103 rfl hf (fun w1 e1 => zc_X9_errorOffset (by omega) e1) (by omega) rfl rfl (Nat.le_of_ble_eq_true rfl) fun y27 hf => ?_
              refine z_icmp_eq 1529 dL_law_293 (by decide) hf (fun hf => ?_) (fun hf => ?_)
              · exact Z.sub [0, 1, 2, 3, 4] rfl (hj1529 v4 y27.2 hf)
              · refine z_iconst (0 : Int32) dL_law_296 (by decide) ?_
                exact z_zret dL_law_297 rfl (Or.inl rfl) (by cases hf; rfl)
            · rw [if_neg c2] at hf
              by_cases c3 : (x7 &&& (31 : Int32)) = (3 : Int32)
              · rw [if_pos c3] at hf
                refine z_tableIn 298 dL_law_40 (by rw [c3]; decide) (by rw [c3]; decide) (by rw [c3]; rfl) (by decide) ?_
                refine z_aload_n 1 dL_law_298 rfl rfl ?_
                refine z_aload_n 0 dL_law_299 rfl rfl ?_
                refine z_iload 4 dL_law_300 rfl ?_
                refine z_iconst (1 : Int32) dL_law_302 (by decide) ?_
                refine z_iadd dL_law_303 ?_
                refine z_sldB hG dL_law_304 hf fun x28 hf => ?_
                refine z_aload_n 3 dL_law_305 rfl rfl ?_
                refine z_cW_i (d' := d - 1) (As := [.ref v1, .int x28, .ref v3]) (rest := []) dL_law_306 lk_L_104 hf (fun w1 e1 => zc_L_state (by omega) e1) (by omega) rfl rfl (Nat.le_of_ble_eq_true rfl) fun y29 hf => ?_
                refine z_istore [(5, .int y29.1), (0, .ref sb), (1, .ref v1), (2, .ref v2), (3, .ref v3), (4, .int v4)] dL_law_309 (by decide) rfl ?_
                refine z_aload_n 3 dL_law_311 rfl rfl ?_
                refine z_aload_n 1 dL_law_312 rfl rfl ?_
                refine z_iload 5 dL_law_313 rfl ?_
                refine z_iconst (1 : Int32) dL_law_315 (by decide) ?_
                refine z_iadd dL_law_316 ?_
                refine z_sldB hG dL_law_317 hf fun x30 hf => ?_
                refine z_cV_i (d' := d - 1) (As := [.int x30]) (rest := []) dL_law_318 lk_L_106 rfl hf (fun w1 e1 => zc_X9_state (by omega) e1) (by omega) rfl rfl (Nat.le_of_ble_eq_true rfl) fun y31 hf => ?_
                refine z_istore [(6, .int y31.1), (5, .int y29.1), (0, .ref sb), (1, .ref v1), (2, .ref v2), (3, .ref v3), (4, .int v4)] dL_law_321 (by decide) rfl ?_
                refine z_aload_n 4 dL_law_323 rfl rfl ?_
                refine z_cV_i (d' := d - 1) (As := []) (rest := []) dL_law_324 lk_L_97 rfl hf (fun w1 e1 => zc_X9_thrown (by omega) e1) (by omega) rfl rfl (Nat.le_of_ble_eq_true rfl) fun y32 hf => ?_
                refine z_iload 1 dL_law_327 rfl ?_
                refine z_icmp_eq 334 dL_law_329 (by decide) hf (fun hf => ?_) (fun hf => ?_)
                · refine z_iload 1 dL_law_334 rfl ?_
                  refine zjn_elim (P := fun (j351 : Int32 → zH → Option ((Int32 ⊕ Nat) × zH)) => ∀ (v4 : Int32) (h : zH), j351 v4 h = some w → Z Γ m_L_law d h0 (zoTI w) 351 [(0, .ref sb), (1, .ref v1), (2, .ref v2), (3, .ref v3), (4, .int v4)] [] h) hf (fun v4 h hf => ?_) (fun j351 hj351 hf => ?_)
                  · refine z_goto 1529 dL_law_351 (by decide) ?_
                    exact Z.sub [0, 1, 2, 3, 4] rfl (hj1529 v4 h hf)
                  · refine z_if_ne 351 dL_law_336 (by decide) hf (fun hf => ?_) (fun hf => ?_)
                    · refine z_aload_n 5 dL_law_339 rfl rfl ?_
                      refine z_iconst (0 : Int32) dL_law_340 (by decide) ?_
                      refine z_laload dL_law_341 hf fun x33 hf => ?_
                      refine z_iload 0 dL_law_342 rfl ?_
                      refine z_i2l dL_law_344 ?_
                      refine z_lcmp dL_law_345 ?_
                      refine z_if_eq 351 dL_law_346 (by decide) hf (fun hf => ?_) (fun hf => ?_)
                      · exact Z.sub [2, 3, 4, 5, 6] rfl (hj351 v4 y32.2 hf)
                      · refine z_iconst (0 : Int32) dL_law_349 (by decide) ?_
                        exact z_zret dL_law_350 rfl (Or.inl rfl) (by cases hf; rfl)
                    · exact Z.sub [2, 3, 4, 5, 6] rfl (hj351 v4 y32.2 hf)
                · refine z_iconst (0 : Int32) dL_law_332 (by decide) ?_
                  exact z_zret dL_law_333 rfl (Or.inl rfl) (by cases hf; rfl)
              · rw [if_neg c3] at hf
                by_cases c4 : (x7 &&& (31 : Int32)) = (4 : Int32)
                · rw [if_pos c4] at hf
                  refine z_tableIn 354 dL_law_40 (by rw [c4]; decide) (by rw [c4]; decide) (by rw [c4]; rfl) (by decide) ?_
                  refine z_aload_n 1 dL_law_354 rfl rfl ?_
                  refine z_aload_n 0 dL_law_355 rfl rfl ?_
                  refine z_iload 4 dL_law_356 rfl ?_
                  refine z_iconst (1 : Int32) dL_law_358 (by decide) ?_
                  refine z_iadd dL_law_359 ?_
                  refine z_sldB hG dL_law_360 hf fun x34 hf => ?_
                  refine z_aload_n 0 dL_law_361 rfl rfl ?_
                  refine z_iload 4 dL_law_362 rfl ?_
                  refine z_iconst (2 : Int32) dL_law_364 (by decide) ?_
                  refine z_iadd dL_law_365 ?_
                  refine z_sldB hG dL_law_366 hf fun x35 hf => ?_
                  refine z_aload_n 3 dL_law_367 rfl rfl ?_
                  refine z_cW_i (d' := d - 1) (As := [.ref v1, .int x34, .int x35, .ref v3]) (rest := []) dL_law_368 lk_L_107 hf (fun w1 e1 => zc_L_player (by omega) e1) (by omega) rfl rfl (Nat.le_of_ble_eq_true rfl) fun y36 hf => ?_
                  refine z_istore [(5, .int y36.1), (0, .ref sb), (1, .ref v1), (2, .ref v2), (3, .ref v3), (4, .int v4)] dL_law_371 (by decide) rfl ?_
                  refine z_aload_n 3 dL_law_373 rfl rfl ?_
                  refine z_aload_n 1 dL_law_374 rfl rfl ?_
                  refine z_iload 5 dL_law_375 rfl ?_
                  refine z_iconst (1 : Int32) dL_law_377 (by decide) ?_
                  refine z_iadd dL_law_378 ?_
                  refine z_sldB hG dL_law_379 hf fun x37 hf => ?_
                  refine z_aload_n 1 dL_law_380 rfl rfl ?_
                  refine z_iload 5 dL_law_381 rfl ?_
                  refine z_iconst (2 : Int32) dL_law_383 (by decide) ?_
                  refine z_iadd dL_law_384 ?_
                  refine z_sldB hG dL_law_385 hf fun x38 hf => ?_
                  refine z_cV_i (d' := d - 1) (As := [.int x37, .int x38]) (rest := []) dL_law_386 lk_L_110 rfl hf (fun w1 e1 => zc_X9_player (by omega) e1) (by omega) rfl rfl (Nat.le_of_ble_eq_true rfl) fun y39 hf => ?_
                  refine z_istore [(6, .int y39.1), (5, .int y36.1), (0, .ref sb), (1, .ref v1), (2, .ref v2), (3, .ref v3), (4, .int v4)] dL_law_389 (by decide) rfl ?_
                  refine z_aload_n 4 dL_law_391 rfl rfl ?_
                  refine z_cV_i (d' := d - 1) (As := []) (rest := []) dL_law_392 lk_L_97 rfl hf (fun w1 e1 => zc_X9_thrown (by omega) e1) (by omega) rfl rfl (Nat.le_of_ble_eq_true rfl) fun y40 hf => ?_
                  refine z_iload 1 dL_law_395 rfl ?_
                  refine z_icmp_eq 402 dL_law_397 (by decide) hf (fun hf => ?_) (fun hf => ?_)
                  · refine z_iload 1 dL_law_402 rfl ?_
                    refine zjn_elim (P := fun (j419 : Int32 → zH → Option ((Int32 ⊕ Nat) × zH)) => ∀ (v4 : Int32) (h : zH), j419 v4 h = some w → Z Γ m_L_law d h0 (zoTI w) 419 [(0, .ref sb), (1, .ref v1), (2, .ref v2), (3, .ref v3), (4, .int v4)] [] h) hf (fun v4 h hf => ?_) (fun j419 hj419 hf => ?_)
                    · refine z_goto 1529 dL_law_419 (by decide) ?_
                      exact Z.sub [0, 1, 2, 3, 4] rfl (hj1529 v4 h hf)
                    · refine z_if_ne 419 dL_law_404 (by decide) hf (fun hf => ?_) (fun hf => ?_)
                      · refine z_aload_n 5 dL_law_407 rfl rfl ?_
                        refine z_iconst (0 : Int32) dL_law_408 (by decide) ?_
                        refine z_laload dL_law_409 hf fun x41 hf => ?_
                        refine z_iload 0 dL_law_410 rfl ?_
                        refine z_i2l dL_law_412 ?_
                        refine z_lcmp dL_law_413 ?_
                        refine z_if_eq 419 dL_law_414 (by decide) hf (fun hf => ?_) (fun hf => ?_)
                        · exact Z.sub [2, 3, 4, 5, 6] rfl (hj419 v4 y40.2 hf)
                        · refine z_iconst (0 : Int32) dL_law_417 (by decide) ?_
                          exact z_zret dL_law_418 rfl (Or.inl rfl) (by cases hf; rfl)
                      · exact Z.sub [2, 3, 4, 5, 6] rfl (hj419 v4 y40.2 hf)
                  · refine z_iconst (0 : Int32) dL_law_400 (by decide) ?_
                    exact z_zret dL_law_401 rfl (Or.inl rfl) (by cases hf; rfl)
                · rw [if_neg c4] at hf
                  by_cases c5 : (x7 &&& (31 : Int32)) = (5 : Int32)
                  · rw [if_pos c5] at hf
                    refine z_tableIn 422 dL_law_40 (by rw [c5]; decide) (by rw [c5]; decide) (by rw [c5]; rfl) (by decide) ?_
                    refine z_aload_n 1 dL_law_422 rfl rfl ?_
                    refine z_aload_n 0 dL_law_423 rfl rfl ?_
                    refine z_iload 4 dL_law_424 rfl ?_
                    refine z_iconst (1 : Int32) dL_law_426 (by decide) ?_
                    refine z_iadd dL_law_427 ?_
                    refine z_sldB hG dL_law_428 hf fun x42 hf => ?_
                    refine z_aload_n 0 dL_law_429 rfl rfl ?_
                    refine z_iload 4 dL_law_430 rfl ?_
                    refine z_iconst (2 : Int32) dL_law_432 (by decide) ?_
                    refine z_iadd dL_law_433 ?_
                    refine z_sldB hG dL_law_434 hf fun x43 hf => ?_
                    refine z_aload_n 0 dL_law_435 rfl rfl ?_
                    refine z_iload 4 dL_law_436 rfl ?_
                    refine z_iconst (3 : Int32) dL_law_438 (by decide) ?_
                    refine z_iadd dL_law_439 ?_
                    refine z_sldB hG dL_law_440 hf fun x44 hf => ?_
                    refine z_aload_n 3 dL_law_441 rfl rfl ?_
                    refine z_cW_i (d' := d - 1) (As := [.ref v1, .int x42, .int x43, .int x44, .ref v3]) (rest := []) dL_law_442 lk_L_111 hf (fun w1 e1 => zc_L_card (by omega) e1) (by omega) rfl rfl (Nat.le_of_ble_eq_true rfl) fun y45 hf => ?_
                    refine z_istore [(5, .int y45.1), (0, .ref sb), (1, .ref v1), (2, .ref v2), (3, .ref v3), (4, .int v4)] dL_law_445 (by decide) rfl ?_
                    refine z_aload_n 3 dL_law_447 rfl rfl ?_
                    refine z_aload_n 1 dL_law_448 rfl rfl ?_
                    refine z_iload 5 dL_law_449 rfl ?_
                    refine z_iconst (1 : Int32) dL_law_451 (by decide) ?_
                    refine z_iadd dL_law_452 ?_
                    refine z_sldB hG dL_law_453 hf fun x46 hf => ?_
                    refine z_aload_n 1 dL_law_454 rfl rfl ?_
                    refine z_iload 5 dL_law_455 rfl ?_
                    refine z_iconst (2 : Int32) dL_law_457 (by decide) ?_
                    refine z_iadd dL_law_458 ?_
                    refine z_sldB hG dL_law_459 hf fun x47 hf => ?_
                    refine z_aload_n 1 dL_law_460 rfl rfl ?_
                    refine z_iload 5 dL_law_461 rfl ?_
                    refine z_iconst (3 : Int32) dL_law_463 (by decide) ?_
                    refine z_iadd dL_law_464 ?_
                    refine z_sldB hG dL_law_465 hf fun x48 hf => ?_
                    refine z_cV_i (d' := d - 1) (As := [.int x46, .int x47, .int x48]) (rest := []) dL_law_466 lk_L_114 rfl hf (fun w1 e1 => zc_X9_card (by omega) e1) (by omega) rfl rfl (Nat.le_of_ble_eq_true rfl) fun y49 hf => ?_
                    refine z_istore [(6, .int y49.1), (5, .int y45.1), (0, .ref sb), (1, .ref v1), (2, .ref v2), (3, .ref v3), (4, .int v4)] dL_law_469 (by decide) rfl ?_
                    refine z_aload_n 4 dL_law_471 rfl rfl ?_
                    refine z_cV_i (d' := d - 1) (As := []) (rest := []) dL_law_472 lk_L_97 rfl hf (fun w1 e1 => zc_X9_thrown (by omega) e1) (by omega) rfl rfl (Nat.le_of_ble_eq_true rfl) fun y50 hf => ?_
                    refine z_iload 1 dL_law_475 rfl ?_
                    refine z_icmp_eq 482 dL_law_477 (by decide) hf (fun hf => ?_) (fun hf => ?_)
                    · refine z_iload 1 dL_law_482 rfl ?_
                      refine zjn_elim (P := fun (j499 : Int32 → zH → Option ((Int32 ⊕ Nat) × zH)) => ∀ (v4 : Int32) (h : zH), j499 v4 h = some w → Z Γ m_L_law d h0 (zoTI w) 499 [(0, .ref sb), (1, .ref v1), (2, .ref v2), (3, .ref v3), (4, .int v4)] [] h) hf (fun v4 h hf => ?_) (fun j499 hj499 hf => ?_)
                      · refine z_goto 1529 dL_law_499 (by decide) ?_
                        exact Z.sub [0, 1, 2, 3, 4] rfl (hj1529 v4 h hf)
                      · refine z_if_ne 499 dL_law_484 (by decide) hf (fun hf => ?_) (fun hf => ?_)
                        · refine z_aload_n 5 dL_law_487 rfl rfl ?_
                          refine z_iconst (0 : Int32) dL_law_488 (by decide) ?_
                          refine z_laload dL_law_489 hf fun x51 hf => ?_
                          refine z_iload 0 dL_law_490 rfl ?_
                          refine z_i2l dL_law_492 ?_
                          refine z_lcmp dL_law_493 ?_
                          refine z_if_eq 499 dL_law_494 (by decide) hf (fun hf => ?_) (fun hf => ?_)
                          · exact Z.sub [2, 3, 4, 5, 6] rfl (hj499 v4 y50.2 hf)
                          · refine z_iconst (0 : Int32) dL_law_497 (by decide) ?_
                            exact z_zret dL_law_498 rfl (Or.inl rfl) (by cases hf; rfl)
                        · exact Z.sub [2, 3, 4, 5, 6] rfl (hj499 v4 y50.2 hf)
                    · refine z_iconst (0 : Int32) dL_law_480 (by decide) ?_
                      exact z_zret dL_law_481 rfl (Or.inl rfl) (by cases hf; rfl)
                  · rw [if_neg c5] at hf
                    by_cases c6 : (x7 &&& (31 : Int32)) = (6 : Int32)
                    · rw [if_pos c6] at hf
                      refine z_tableIn 502 dL_law_40 (by rw [c6]; decide) (by rw [c6]; decide) (by rw [c6]; rfl) (by decide) ?_
                      refine z_aload_n 1 dL_law_502 rfl rfl ?_
                      refine z_aload_n 0 dL_law_503 rfl rfl ?_
                      refine z_iload 4 dL_law_504 rfl ?_
                      refine z_iconst (1 : Int32) dL_law_506 (by decide) ?_
                      refine z_iadd dL_law_507 ?_
                      refine z_sldB hG dL_law_508 hf fun x52 hf => ?_
                      refine z_aload_n 0 dL_law_509 rfl rfl ?_
                      refine z_iload 4 dL_law_510 rfl ?_
                      refine z_iconst (2 : Int32) dL_law_512 (by decide) ?_
                      refine z_iadd dL_law_513 ?_
                      refine z_sldB hG dL_law_514 hf fun x53 hf => ?_
                      refine z_aload_n 3 dL_law_515 rfl rfl ?_
                      refine z_cW_i (d' := d - 1) (As := [.ref v1, .int x52, .int x53, .ref v3]) (rest := []) dL_law_516 lk_L_115 hf (fun w1 e1 => zc_L_bid (by omega) e1) (by omega) rfl rfl (Nat.le_of_ble_eq_true rfl) fun y54 hf => ?_
                      refine z_istore [(5, .int y54.1), (0, .ref sb), (1, .ref v1), (2, .ref v2), (3, .ref v3), (4, .int v4)] dL_law_519 (by decide) rfl ?_
                      refine z_aload_n 3 dL_law_521 rfl rfl ?_
                      refine z_aload_n 1 dL_law_522 rfl rfl ?_
                      refine z_iload 5 dL_law_523 rfl ?_
                      refine z_iconst (1 : Int32) dL_law_525 (by decide) ?_
                      refine z_iadd dL_law_526 ?_
                      refine z_sldB hG dL_law_527 hf fun x55 hf => ?_
                      refine z_aload_n 1 dL_law_528 rfl rfl ?_
                      refine z_iload 5 dL_law_529 rfl ?_
                      refine z_iconst (2 : Int32) dL_law_531 (by decide) ?_
                      refine z_iadd dL_law_532 ?_
                      refine z_sldB hG dL_law_533 hf fun x56 hf => ?_
                      refine z_cV_i (d' := d - 1) (As := [.int x55, .int x56]) (rest := []) dL_law_534 lk_L_117 rfl hf (fun w1 e1 => zc_X9_bid (by omega) e1) (by omega) rfl rfl (Nat.le_of_ble_eq_true rfl) fun y57 hf => ?_
                      refine z_istore [(6, .int y57.1), (5, .int y54.1), (0, .ref sb), (1, .ref v1), (2, .ref v2), (3, .ref v3), (4, .int v4)] dL_law_537 (by decide) rfl ?_
                      refine z_aload_n 4 dL_law_539 rfl rfl ?_
                      refine z_cV_i (d' := d - 1) (As := []) (rest := []) dL_law_540 lk_L_97 rfl hf (fun w1 e1 => zc_X9_thrown (by omega) e1) (by omega) rfl rfl (Nat.le_of_ble_eq_true rfl) fun y58 hf => ?_
                      refine z_iload 1 dL_law_543 rfl ?_
                      refine z_icmp_eq 550 dL_law_545 (by decide) hf (fun hf => ?_) (fun hf => ?_)
                      · refine z_iload 1 dL_law_550 rfl ?_
                        refine zjn_elim (P := fun (j567 : Int32 → zH → Option ((Int32 ⊕ Nat) × zH)) => ∀ (v4 : Int32) (h : zH), j567 v4 h = some w → Z Γ m_L_law d h0 (zoTI w) 567 [(0, .ref sb), (1, .ref v1), (2, .ref v2), (3, .ref v3), (4, .int v4)] [] h) hf (fun v4 h hf => ?_) (fun j567 hj567 hf => ?_)
                        · refine z_goto 1529 dL_law_567 (by decide) ?_
                          exact Z.sub [0, 1, 2, 3, 4] rfl (hj1529 v4 h hf)
                        · refine z_if_ne 567 dL_law_552 (by decide) hf (fun hf => ?_) (fun hf => ?_)
                          · refine z_aload_n 5 dL_law_555 rfl rfl ?_
                            refine z_iconst (0 : Int32) dL_law_556 (by decide) ?_
                            refine z_laload dL_law_557 hf fun x59 hf => ?_
                            refine z_iload 0 dL_law_558 rfl ?_
                            refine z_i2l dL_law_560 ?_
                            refine z_lcmp dL_law_561 ?_
                            refine z_if_eq 567 dL_law_562 (by decide) hf (fun hf => ?_) (fun hf => ?_)
                            · exact Z.sub [2, 3, 4, 5, 6] rfl (hj567 v4 y58.2 hf)
                            · refine z_iconst (0 : Int32) dL_law_565 (by decide) ?_
                              exact z_zret dL_law_566 rfl (Or.inl rfl) (by cases hf; rfl)
                          · exact Z.sub [2, 3, 4, 5, 6] rfl (hj567 v4 y58.2 hf)
                      · refine z_iconst (0 : Int32) dL_law_548 (by decide) ?_
                        exact z_zret dL_law_549 rfl (Or.inl rfl) (by cases hf; rfl)
                    · rw [if_neg c6] at hf
                      by_cases c7 : (x7 &&& (31 : Int32)) = (7 : Int32)
                      · rw [if_pos c7] at hf
                        refine z_tableIn 570 dL_law_40 (by rw [c7]; decide) (by rw [c7]; decide) (by rw [c7]; rfl) (by decide) ?_
                        refine z_aload_n 1 dL_law_570 rfl rfl ?_
                        refine z_cV_i (d' := d - 1) (As := []) (rest := []) dL_law_571 lk_L_118 rfl hf (fun w1 e1 => zc_X8_product (by omega) e1) (by omega) rfl rfl (Nat.le_of_ble_eq_true rfl) fun y60 hf => ?_
                        refine z_aload_n 2 dL_law_574 rfl rfl ?_
                        refine z_cV_i (d' := d - 1) (As := []) (rest := [.int y60.1]) dL_law_575 lk_L_121 rfl hf (fun w1 e1 => zc_X9_product (by omega) e1) (by omega) rfl rfl (Nat.le_of_ble_eq_true rfl) fun y61 hf => ?_
                        refine z_icmp_eq 1529 dL_law_578 (by decide) hf (fun hf => ?_) (fun hf => ?_)
                        · exact Z.sub [0, 1, 2, 3, 4] rfl (hj1529 v4 y61.2 hf)
                        · refine z_iconst (0 : Int32) dL_law_581 (by decide) ?_
                          exact z_zret dL_law_582 rfl (Or.inl rfl) (by cases hf; rfl)
                      · rw [if_neg c7] at hf
                        by_cases c8 : (x7 &&& (31 : Int32)) = (8 : Int32)
                        · rw [if_pos c8] at hf
                          refine z_tableIn 583 dL_law_40 (by rw [c8]; decide) (by rw [c8]; decide) (by rw [c8]; rfl) (by decide) ?_
                          refine z_aload_n 1 dL_law_583 rfl rfl ?_
                          refine z_aload_n 0 dL_law_584 rfl rfl ?_
                          refine z_iload 4 dL_law_585 rfl ?_
                          refine z_iconst (1 : Int32) dL_law_587 (by decide) ?_
                          refine z_iadd dL_law_588 ?_
                          refine z_sldB hG dL_law_589 hf fun x62 hf => ?_
                          refine z_aload_n 0 dL_law_590 rfl rfl ?_
                          refine z_iload 4 dL_law_591 rfl ?_
                          refine z_iconst (2 : Int32) dL_law_593 (by decide) ?_
                          refine z_iadd dL_law_594 ?_
                          refine z_sldB hG dL_law_595 hf fun x63 hf => ?_
                          refine z_aload_n 3 dL_law_596 rfl rfl ?_
                          refine z_cW_i (d' := d - 1) (As := [.ref v1, .int x62, .int x63, .ref v3]) (rest := []) dL_law_597 lk_L_122 hf (fun w1 e1 => zc_L_productOf (by omega) e1) (by omega) rfl rfl (Nat.le_of_ble_eq_true rfl) fun y64 hf => ?_
                          refine z_istore [(5, .int y64.1), (0, .ref sb), (1, .ref v1), (2, .ref v2), (3, .ref v3), (4, .int v4)] dL_law_600 (by decide) rfl ?_
                          refine z_aload_n 3 dL_law_602 rfl rfl ?_
                          refine z_aload_n 1 dL_law_603 rfl rfl ?_
                          refine z_iload 5 dL_law_604 rfl ?_
                          refine z_iconst (1 : Int32) dL_law_606 (by decide) ?_
                          refine z_iadd dL_law_607 ?_
                          refine z_sldB hG dL_law_608 hf fun x65 hf => ?_
                          refine z_aload_n 1 dL_law_609 rfl rfl ?_
                          refine z_iload 5 dL_law_610 rfl ?_
                          refine z_iconst (2 : Int32) dL_law_612 (by decide) ?_
                          refine z_iadd dL_law_613 ?_
                          refine z_sldB hG dL_law_614 hf fun x66 hf => ?_
                          refine z_cV_i (d' := d - 1) (As := [.int x65, .int x66]) (rest := []) dL_law_615 lk_L_124 rfl hf (fun w1 e1 => zc_X9_productOf (by omega) e1) (by omega) rfl rfl (Nat.le_of_ble_eq_true rfl) fun y67 hf => ?_
                          refine z_istore [(6, .int y67.1), (5, .int y64.1), (0, .ref sb), (1, .ref v1), (2, .ref v2), (3, .ref v3), (4, .int v4)] dL_law_618 (by decide) rfl ?_
                          refine z_aload_n 4 dL_law_620 rfl rfl ?_
                          refine z_cV_i (d' := d - 1) (As := []) (rest := []) dL_law_621 lk_L_97 rfl hf (fun w1 e1 => zc_X9_thrown (by omega) e1) (by omega) rfl rfl (Nat.le_of_ble_eq_true rfl) fun y68 hf => ?_
                          refine z_iload 1 dL_law_624 rfl ?_
                          refine z_icmp_eq 631 dL_law_626 (by decide) hf (fun hf => ?_) (fun hf => ?_)
                          · refine z_iload 1 dL_law_631 rfl ?_
                            refine zjn_elim (P := fun (j648 : Int32 → zH → Option ((Int32 ⊕ Nat) × zH)) => ∀ (v4 : Int32) (h : zH), j648 v4 h = some w → Z Γ m_L_law d h0 (zoTI w) 648 [(0, .ref sb), (1, .ref v1), (2, .ref v2), (3, .ref v3), (4, .int v4)] [] h) hf (fun v4 h hf => ?_) (fun j648 hj648 hf => ?_)
                            · refine z_goto 1529 dL_law_648 (by decide) ?_
                              exact Z.sub [0, 1, 2, 3, 4] rfl (hj1529 v4 h hf)
                            · refine z_if_ne 648 dL_law_633 (by decide) hf (fun hf => ?_) (fun hf => ?_)
                              · refine z_aload_n 5 dL_law_636 rfl rfl ?_
                                refine z_iconst (0 : Int32) dL_law_637 (by decide) ?_
                                refine z_laload dL_law_638 hf fun x69 hf => ?_
                                refine z_iload 0 dL_law_639 rfl ?_
                                refine z_i2l dL_law_641 ?_
                                refine z_lcmp dL_law_642 ?_
                                refine z_if_eq 648 dL_law_643 (by decide) hf (fun hf => ?_) (fun hf => ?_)
                                · exact Z.sub [2, 3, 4, 5, 6] rfl (hj648 v4 y68.2 hf)
                                · refine z_iconst (0 : Int32) dL_law_646 (by decide) ?_
                                  exact z_zret dL_law_647 rfl (Or.inl rfl) (by cases hf; rfl)
                              · exact Z.sub [2, 3, 4, 5, 6] rfl (hj648 v4 y68.2 hf)
                          · refine z_iconst (0 : Int32) dL_law_629 (by decide) ?_
                            exact z_zret dL_law_630 rfl (Or.inl rfl) (by cases hf; rfl)
                        · rw [if_neg c8] at hf
                          by_cases c9 : (x7 &&& (31 : Int32)) = (9 : Int32)
                          · rw [if_pos c9] at hf
                            refine z_tableIn 651 dL_law_40 (by rw [c9]; decide) (by rw [c9]; decide) (by rw [c9]; rfl) (by decide) ?_
                            refine z_aload_n 1 dL_law_651 rfl rfl ?_
                            refine z_aload_n 0 dL_law_652 rfl rfl ?_
                            refine z_iload 4 dL_law_653 rfl ?_
                            refine z_iconst (1 : Int32) dL_law_655 (by decide) ?_
                            refine z_iadd dL_law_656 ?_
                            refine z_sldB hG dL_law_657 hf fun x70 hf => ?_
                            refine z_aload_n 0 dL_law_658 rfl rfl ?_
                            refine z_iload 4 dL_law_659 rfl ?_
                            refine z_iconst (2 : Int32) dL_law_661 (by decide) ?_
                            refine z_iadd dL_law_662 ?_
                            refine z_sldB hG dL_law_663 hf fun x71 hf => ?_
                            refine z_aload_n 3 dL_law_664 rfl rfl ?_
                            refine z_cW_i (d' := d - 1) (As := [.ref v1, .int x70, .int x71, .ref v3]) (rest := []) dL_law_665 lk_L_125 hf (fun w1 e1 => zc_L_multiply (by omega) e1) (by omega) rfl rfl (Nat.le_of_ble_eq_true rfl) fun y72 hf => ?_
                            refine z_istore [(5, .int y72.1), (0, .ref sb), (1, .ref v1), (2, .ref v2), (3, .ref v3), (4, .int v4)] dL_law_668 (by decide) rfl ?_
                            refine z_aload_n 3 dL_law_670 rfl rfl ?_
                            refine z_aload_n 1 dL_law_671 rfl rfl ?_
                            refine z_iload 5 dL_law_672 rfl ?_
                            refine z_iconst (1 : Int32) dL_law_674 (by decide) ?_
                            refine z_iadd dL_law_675 ?_
                            refine z_sldB hG dL_law_676 hf fun x73 hf => ?_
                            refine z_aload_n 1 dL_law_677 rfl rfl ?_
                            refine z_iload 5 dL_law_678 rfl ?_
                            refine z_iconst (2 : Int32) dL_law_680 (by decide) ?_
                            refine z_iadd dL_law_681 ?_
                            refine z_sldB hG dL_law_682 hf fun x74 hf => ?_
                            refine z_cV_i (d' := d - 1) (As := [.int x73, .int x74]) (rest := []) dL_law_683 lk_L_127 rfl hf (fun w1 e1 => zc_X9_multiply (by omega) e1) (by omega) rfl rfl (Nat.le_of_ble_eq_true rfl) fun y75 hf => ?_
                            refine z_istore [(6, .int y75.1), (5, .int y72.1), (0, .ref sb), (1, .ref v1), (2, .ref v2), (3, .ref v3), (4, .int v4)] dL_law_686 (by decide) rfl ?_
                            refine z_aload_n 4 dL_law_688 rfl rfl ?_
                            refine z_cV_i (d' := d - 1) (As := []) (rest := []) dL_law_689 lk_L_97 rfl hf (fun w1 e1 => zc_X9_thrown (by omega) e1) (by omega) rfl rfl (Nat.le_of_ble_eq_true rfl) fun y76 hf => ?_
                            refine z_iload 1 dL_law_692 rfl ?_
                            refine z_icmp_eq 699 dL_law_694 (by decide) hf (fun hf => ?_) (fun hf => ?_)
                            · refine z_iload 1 dL_law_699 rfl ?_
                              refine zjn_elim (P := fun (j716 : Int32 → zH → Option ((Int32 ⊕ Nat) × zH)) => ∀ (v4 : Int32) (h : zH), j716 v4 h = some w → Z Γ m_L_law d h0 (zoTI w) 716 [(0, .ref sb), (1, .ref v1), (2, .ref v2), (3, .ref v3), (4, .int v4)] [] h) hf (fun v4 h hf => ?_) (fun j716 hj716 hf => ?_)
                              · refine z_goto 1529 dL_law_716 (by decide) ?_
                                exact Z.sub [0, 1, 2, 3, 4] rfl (hj1529 v4 h hf)
                              · refine z_if_ne 716 dL_law_701 (by decide) hf (fun hf => ?_) (fun hf => ?_)
                                · refine z_aload_n 5 dL_law_704 rfl rfl ?_
                                  refine z_iconst (0 : Int32) dL_law_705 (by decide) ?_
                                  refine z_laload dL_law_706 hf fun x77 hf => ?_
                                  refine z_iload 0 dL_law_707 rfl ?_
                                  refine z_i2l dL_law_709 ?_
                                  refine z_lcmp dL_law_710 ?_
                                  refine z_if_eq 716 dL_law_711 (by decide) hf (fun hf => ?_) (fun hf => ?_)
                                  · exact Z.sub [2, 3, 4, 5, 6] rfl (hj716 v4 y76.2 hf)
                                  · refine z_iconst (0 : Int32) dL_law_714 (by decide) ?_
                                    exact z_zret dL_law_715 rfl (Or.inl rfl) (by cases hf; rfl)
                                · exact Z.sub [2, 3, 4, 5, 6] rfl (hj716 v4 y76.2 hf)
                            · refine z_iconst (0 : Int32) dL_law_697 (by decide) ?_
                              exact z_zret dL_law_698 rfl (Or.inl rfl) (by cases hf; rfl)
                          · rw [if_neg c9] at hf
                            by_cases c10 : (x7 &&& (31 : Int32)) = (10 : Int32)
                            · rw [if_pos c10] at hf
                              refine z_tableIn 719 dL_law_40 (by rw [c10]; decide) (by rw [c10]; decide) (by rw [c10]; rfl) (by decide) ?_
                              refine z_aload_n 1 dL_law_719 rfl rfl ?_
                              refine z_aload_n 0 dL_law_720 rfl rfl ?_
                              refine z_iload 4 dL_law_721 rfl ?_
                              refine z_iconst (1 : Int32) dL_law_723 (by decide) ?_
                              refine z_iadd dL_law_724 ?_
                              refine z_sldB hG dL_law_725 hf fun x78 hf => ?_
                              refine z_aload_n 3 dL_law_726 rfl rfl ?_
                              refine z_cW_i (d' := d - 1) (As := [.ref v1, .int x78, .ref v3]) (rest := []) dL_law_727 lk_L_128 hf (fun w1 e1 => zc_L_inverse (by omega) e1) (by omega) rfl rfl (Nat.le_of_ble_eq_true rfl) fun y79 hf => ?_
                              refine z_istore [(5, .int y79.1), (0, .ref sb), (1, .ref v1), (2, .ref v2), (3, .ref v3), (4, .int v4)] dL_law_730 (by decide) rfl ?_
                              refine z_aload_n 3 dL_law_732 rfl rfl ?_
                              refine z_aload_n 1 dL_law_733 rfl rfl ?_
                              refine z_iload 5 dL_law_734 rfl ?_
                              refine z_iconst (1 : Int32) dL_law_736 (by decide) ?_
                              refine z_iadd dL_law_737 ?_
                              refine z_sldB hG dL_law_738 hf fun x80 hf => ?_
                              refine z_cV_i (d' := d - 1) (As := [.int x80]) (rest := []) dL_law_739 lk_L_130 rfl hf (fun w1 e1 => zc_X9_inverse (by omega) e1) (by omega) rfl rfl (Nat.le_of_ble_eq_true rfl) fun y81 hf => ?_
                              refine z_istore [(6, .int y81.1), (5, .int y79.1), (0, .ref sb), (1, .ref v1), (2, .ref v2), (3, .ref v3), (4, .int v4)] dL_law_742 (by decide) rfl ?_
                              refine z_aload_n 4 dL_law_744 rfl rfl ?_
                              refine z_cV_i (d' := d - 1) (As := []) (rest := []) dL_law_745 lk_L_97 rfl hf (fun w1 e1 => zc_X9_thrown (by omega) e1) (by omega) rfl rfl (Nat.le_of_ble_eq_true rfl) fun y82 hf => ?_
                              refine z_iload 1 dL_law_748 rfl ?_
                              refine z_icmp_eq 755 dL_law_750 (by decide) hf (fun hf => ?_) (fun hf => ?_)
                              · refine z_iload 1 dL_law_755 rfl ?_
                                refine zjn_elim (P := fun (j772 : Int32 → zH → Option ((Int32 ⊕ Nat) × zH)) => ∀ (v4 : Int32) (h : zH), j772 v4 h = some w → Z Γ m_L_law d h0 (zoTI w) 772 [(0, .ref sb), (1, .ref v1), (2, .ref v2), (3, .ref v3), (4, .int v4)] [] h) hf (fun v4 h hf => ?_) (fun j772 hj772 hf => ?_)
                                · refine z_goto 1529 dL_law_772 (by decide) ?_
                                  exact Z.sub [0, 1, 2, 3, 4] rfl (hj1529 v4 h hf)
                                · refine z_if_ne 772 dL_law_757 (by decide) hf (fun hf => ?_) (fun hf => ?_)
                                  · refine z_aload_n 5 dL_law_760 rfl rfl ?_
                                    refine z_iconst (0 : Int32) dL_law_761 (by decide) ?_
                                    refine z_laload dL_law_762 hf fun x83 hf => ?_
                                    refine z_iload 0 dL_law_763 rfl ?_
                                    refine z_i2l dL_law_765 ?_
                                    refine z_lcmp dL_law_766 ?_
                                    refine z_if_eq 772 dL_law_767 (by decide) hf (fun hf => ?_) (fun hf => ?_)
                                    · exact Z.sub [2, 3, 4, 5, 6] rfl (hj772 v4 y82.2 hf)
                                    · refine z_iconst (0 : Int32) dL_law_770 (by decide) ?_
                                      exact z_zret dL_law_771 rfl (Or.inl rfl) (by cases hf; rfl)
                                  · exact Z.sub [2, 3, 4, 5, 6] rfl (hj772 v4 y82.2 hf)
                              · refine z_iconst (0 : Int32) dL_law_753 (by decide) ?_
                                exact z_zret dL_law_754 rfl (Or.inl rfl) (by cases hf; rfl)
                            · rw [if_neg c10] at hf
                              by_cases c11 : (x7 &&& (31 : Int32)) = (11 : Int32)
                              · rw [if_pos c11] at hf
                                refine z_tableIn 775 dL_law_40 (by rw [c11]; decide) (by rw [c11]; decide) (by rw [c11]; rfl) (by decide) ?_
                                refine z_aload_n 1 dL_law_775 rfl rfl ?_
                                refine z_aload_n 0 dL_law_776 rfl rfl ?_
                                refine z_iload 4 dL_law_777 rfl ?_
                                refine z_iconst (1 : Int32) dL_law_779 (by decide) ?_
                                refine z_iadd dL_law_780 ?_
                                refine z_sldB hG dL_law_781 hf fun x84 hf => ?_
                                refine z_aload_n 3 dL_law_782 rfl rfl ?_
                                refine z_cW_i (d' := d - 1) (As := [.ref v1, .int x84, .ref v3]) (rest := []) dL_law_783 lk_L_131 hf (fun w1 e1 => zc_L_order (by omega) e1) (by omega) rfl rfl (Nat.le_of_ble_eq_true rfl) fun y85 hf => ?_
                                refine z_istore [(5, .int y85.1), (0, .ref sb), (1, .ref v1), (2, .ref v2), (3, .ref v3), (4, .int v4)] dL_law_786 (by decide) rfl ?_
                                refine z_aload_n 3 dL_law_788 rfl rfl ?_
                                refine z_aload_n 1 dL_law_789 rfl rfl ?_
                                refine z_iload 5 dL_law_790 rfl ?_
                                refine z_iconst (1 : Int32) dL_law_792 (by decide) ?_
                                refine z_iadd dL_law_793 ?_
                                refine z_sldB hG dL_law_794 hf fun x86 hf => ?_
                                refine z_cV_i (d' := d - 1) (As := [.int x86]) (rest := []) dL_law_795 lk_L_133 rfl hf (fun w1 e1 => zc_X9_order (by omega) e1) (by omega) rfl rfl (Nat.le_of_ble_eq_true rfl) fun y87 hf => ?_
                                refine z_istore [(6, .int y87.1), (5, .int y85.1), (0, .ref sb), (1, .ref v1), (2, .ref v2), (3, .ref v3), (4, .int v4)] dL_law_798 (by decide) rfl ?_
                                refine z_aload_n 4 dL_law_800 rfl rfl ?_
                                refine z_cV_i (d' := d - 1) (As := []) (rest := []) dL_law_801 lk_L_97 rfl hf (fun w1 e1 => zc_X9_thrown (by omega) e1) (by omega) rfl rfl (Nat.le_of_ble_eq_true rfl) fun y88 hf => ?_
                                refine z_iload 1 dL_law_804 rfl ?_
                                refine z_icmp_eq 811 dL_law_806 (by decide) hf (fun hf => ?_) (fun hf => ?_)
                                · refine z_iload 1 dL_law_811 rfl ?_
                                  refine zjn_elim (P := fun (j828 : Int32 → zH → Option ((Int32 ⊕ Nat) × zH)) => ∀ (v4 : Int32) (h : zH), j828 v4 h = some w → Z Γ m_L_law d h0 (zoTI w) 828 [(0, .ref sb), (1, .ref v1), (2, .ref v2), (3, .ref v3), (4, .int v4)] [] h) hf (fun v4 h hf => ?_) (fun j828 hj828 hf => ?_)
                                  · refine z_goto 1529 dL_law_828 (by decide) ?_
                                    exact Z.sub [0, 1, 2, 3, 4] rfl (hj1529 v4 h hf)
                                  · refine z_if_ne 828 dL_law_813 (by decide) hf (fun hf => ?_) (fun hf => ?_)
                                    · refine z_aload_n 5 dL_law_816 rfl rfl ?_
                                      refine z_iconst (0 : Int32) dL_law_817 (by decide) ?_
                                      refine z_laload dL_law_818 hf fun x89 hf => ?_
                                      refine z_iload 0 dL_law_819 rfl ?_
                                      refine z_i2l dL_law_821 ?_
                                      refine z_lcmp dL_law_822 ?_
                                      refine z_if_eq 828 dL_law_823 (by decide) hf (fun hf => ?_) (fun hf => ?_)
                                      · exact Z.sub [2, 3, 4, 5, 6] rfl (hj828 v4 y88.2 hf)
                                      · refine z_iconst (0 : Int32) dL_law_826 (by decide) ?_
                                        exact z_zret dL_law_827 rfl (Or.inl rfl) (by cases hf; rfl)
                                    · exact Z.sub [2, 3, 4, 5, 6] rfl (hj828 v4 y88.2 hf)
                                · refine z_iconst (0 : Int32) dL_law_809 (by decide) ?_
                                  exact z_zret dL_law_810 rfl (Or.inl rfl) (by cases hf; rfl)
                              · rw [if_neg c11] at hf
                                by_cases c12 : (x7 &&& (31 : Int32)) = (12 : Int32)
                                · rw [if_pos c12] at hf
                                  refine z_tableIn 831 dL_law_40 (by rw [c12]; decide) (by rw [c12]; decide) (by rw [c12]; rfl) (by decide) ?_
                                  refine z_aload_n 1 dL_law_831 rfl rfl ?_
                                  refine z_aload_n 0 dL_law_832 rfl rfl ?_
                                  refine z_iload 4 dL_law_833 rfl ?_
                                  refine z_iconst (1 : Int32) dL_law_835 (by decide) ?_
                                  refine z_iadd dL_law_836 ?_
                                  refine z_sldB hG dL_law_837 hf fun x90 hf => ?_
                                  refine z_aload_n 3 dL_law_838 rfl rfl ?_
                                  refine z_cW_i (d' := d - 1) (As := [.ref v1, .int x90, .ref v3]) (rest := []) dL_law_839 lk_L_134 hf (fun w1 e1 => zc_L_reach (by omega) e1) (by omega) rfl rfl (Nat.le_of_ble_eq_true rfl) fun y91 hf => ?_
                                  refine z_istore [(5, .int y91.1), (0, .ref sb), (1, .ref v1), (2, .ref v2), (3, .ref v3), (4, .int v4)] dL_law_842 (by decide) rfl ?_
                                  refine z_aload_n 3 dL_law_844 rfl rfl ?_
                                  refine z_aload_n 1 dL_law_845 rfl rfl ?_
                                  refine z_iload 5 dL_law_846 rfl ?_
                                  refine z_iconst (1 : Int32) dL_law_848 (by decide) ?_
                                  refine z_iadd dL_law_849 ?_
                                  refine z_sldB hG dL_law_850 hf fun x92 hf => ?_
                                  refine z_cV_i (d' := d - 1) (As := [.int x92]) (rest := []) dL_law_851 lk_L_136 rfl hf (fun w1 e1 => zc_X9_reach (by omega) e1) (by omega) rfl rfl (Nat.le_of_ble_eq_true rfl) fun y93 hf => ?_
                                  refine z_istore [(6, .int y93.1), (5, .int y91.1), (0, .ref sb), (1, .ref v1), (2, .ref v2), (3, .ref v3), (4, .int v4)] dL_law_854 (by decide) rfl ?_
                                  refine z_aload_n 4 dL_law_856 rfl rfl ?_
                                  refine z_cV_i (d' := d - 1) (As := []) (rest := []) dL_law_857 lk_L_97 rfl hf (fun w1 e1 => zc_X9_thrown (by omega) e1) (by omega) rfl rfl (Nat.le_of_ble_eq_true rfl) fun y94 hf => ?_
                                  refine z_iload 1 dL_law_860 rfl ?_
                                  refine z_icmp_eq 867 dL_law_862 (by decide) hf (fun hf => ?_) (fun hf => ?_)
                                  · refine z_iload 1 dL_law_867 rfl ?_
                                    refine zjn_elim (P := fun (j884 : Int32 → zH → Option ((Int32 ⊕ Nat) × zH)) => ∀ (v4 : Int32) (h : zH), j884 v4 h = some w → Z Γ m_L_law d h0 (zoTI w) 884 [(0, .ref sb), (1, .ref v1), (2, .ref v2), (3, .ref v3), (4, .int v4)] [] h) hf (fun v4 h hf => ?_) (fun j884 hj884 hf => ?_)
                                    · refine z_goto 1529 dL_law_884 (by decide) ?_
                                      exact Z.sub [0, 1, 2, 3, 4] rfl (hj1529 v4 h hf)
                                    · refine z_if_ne 884 dL_law_869 (by decide) hf (fun hf => ?_) (fun hf => ?_)
                                      · refine z_aload_n 5 dL_law_872 rfl rfl ?_
                                        refine z_iconst (0 : Int32) dL_law_873 (by decide) ?_
                                        refine z_laload dL_law_874 hf fun x95 hf => ?_
                                        refine z_iload 0 dL_law_875 rfl ?_
                                        refine z_i2l dL_law_877 ?_
                                        refine z_lcmp dL_law_878 ?_
                                        refine z_if_eq 884 dL_law_879 (by decide) hf (fun hf => ?_) (fun hf => ?_)
                                        · exact Z.sub [2, 3, 4, 5, 6] rfl (hj884 v4 y94.2 hf)
                                        · refine z_iconst (0 : Int32) dL_law_882 (by decide) ?_
                                          exact z_zret dL_law_883 rfl (Or.inl rfl) (by cases hf; rfl)
                                      · exact Z.sub [2, 3, 4, 5, 6] rfl (hj884 v4 y94.2 hf)
                                  · refine z_iconst (0 : Int32) dL_law_865 (by decide) ?_
                                    exact z_zret dL_law_866 rfl (Or.inl rfl) (by cases hf; rfl)
                                · rw [if_neg c12] at hf
                                  by_cases c13 : (x7 &&& (31 : Int32)) = (13 : Int32)
                                  · rw [if_pos c13] at hf
                                    refine z_tableIn 887 dL_law_40 (by rw [c13]; decide) (by rw [c13]; decide) (by rw [c13]; rfl) (by decide) ?_
                                    refine z_aload_n 1 dL_law_887 rfl rfl ?_
                                    refine z_aload_n 0 dL_law_888 rfl rfl ?_
                                    refine z_iload 4 dL_law_889 rfl ?_
                                    refine z_iconst (1 : Int32) dL_law_891 (by decide) ?_
                                    refine z_iadd dL_law_892 ?_
                                    refine z_sldB hG dL_law_893 hf fun x96 hf => ?_
                                    refine z_aload_n 0 dL_law_894 rfl rfl ?_
                                    refine z_iload 4 dL_law_895 rfl ?_
                                    refine z_iconst (2 : Int32) dL_law_897 (by decide) ?_
                                    refine z_iadd dL_law_898 ?_
                                    refine z_sldB hG dL_law_899 hf fun x97 hf => ?_
                                    refine z_aload_n 3 dL_law_900 rfl rfl ?_
                                    refine z_cW_i (d' := d - 1) (As := [.ref v1, .int x96, .int x97, .ref v3]) (rest := []) dL_law_901 lk_L_137 hf (fun w1 e1 => zc_L_reaches (by omega) e1) (by omega) rfl rfl (Nat.le_of_ble_eq_true rfl) fun y98 hf => ?_
                                    refine z_istore [(5, .int y98.1), (0, .ref sb), (1, .ref v1), (2, .ref v2), (3, .ref v3), (4, .int v4)] dL_law_904 (by decide) rfl ?_
                                    refine z_aload_n 3 dL_law_906 rfl rfl ?_
                                    refine z_aload_n 1 dL_law_907 rfl rfl ?_
                                    refine z_iload 5 dL_law_908 rfl ?_
                                    refine z_iconst (1 : Int32) dL_law_910 (by decide) ?_
                                    refine z_iadd dL_law_911 ?_
                                    refine z_sldB hG dL_law_912 hf fun x99 hf => ?_
                                    refine z_aload_n 1 dL_law_913 rfl rfl ?_
                                    refine z_iload 5 dL_law_914 rfl ?_
                                    refine z_iconst (2 : Int32) dL_law_916 (by decide) ?_
                                    refine z_iadd dL_law_917 ?_
                                    refine z_sldB hG dL_law_918 hf fun x100 hf => ?_
                                    refine z_cV_i (d' := d - 1) (As := [.int x99, .int x100]) (rest := []) dL_law_919 lk_L_139 rfl hf (fun w1 e1 => zc_X9_reaches (by omega) e1) (by omega) rfl rfl (Nat.le_of_ble_eq_true rfl) fun y101 hf => ?_
                                    refine z_istore [(6, .int y101.1), (5, .int y98.1), (0, .ref sb), (1, .ref v1), (2, .ref v2), (3, .ref v3), (4, .int v4)] dL_law_922 (by decide) rfl ?_
                                    refine z_aload_n 4 dL_law_924 rfl rfl ?_
                                    refine z_cV_i (d' := d - 1) (As := []) (rest := []) dL_law_925 lk_L_97 rfl hf (fun w1 e1 => zc_X9_thrown (by omega) e1) (by omega) rfl rfl (Nat.le_of_ble_eq_true rfl) fun y102 hf => ?_
                                    refine z_iload 1 dL_law_928 rfl ?_
                                    refine z_icmp_eq 935 dL_law_930 (by decide) hf (fun hf => ?_) (fun hf => ?_)
                                    · refine z_iload 1 dL_law_935 rfl ?_
                                      refine zjn_elim (P := fun (j959 : Int32 → zH → Option ((Int32 ⊕ Nat) × zH)) => ∀ (v4 : Int32) (h : zH), j959 v4 h = some w → Z Γ m_L_law d h0 (zoTI w) 959 [(0, .ref sb), (1, .ref v1), (2, .ref v2), (3, .ref v3), (4, .int v4)] [] h) hf (fun v4 h hf => ?_) (fun j959 hj959 hf => ?_)
                                      · refine z_goto 1529 dL_law_959 (by decide) ?_
                                        exact Z.sub [0, 1, 2, 3, 4] rfl (hj1529 v4 h hf)
                                      · refine z_if_ne 959 dL_law_937 (by decide) hf (fun hf => ?_) (fun hf => ?_)
                                        · refine z_aload_n 5 dL_law_940 rfl rfl ?_
                                          refine z_iconst (0 : Int32) dL_law_941 (by decide) ?_
                                          refine z_laload dL_law_942 hf fun x103 hf => ?_
                                          refine z_iload 0 dL_law_943 rfl ?_
                                          refine zjn_elim (P := fun (j953 : Int32 → Int64 → Int64 → zH → Option ((Int32 ⊕ Nat) × zH)) => ∀ (v4 : Int32) (s0 : Int64) (s1 : Int64) (h : zH), j953 v4 s0 s1 h = some w → Z Γ m_L_law d h0 (zoTI w) 953 [(0, .ref sb), (1, .ref v1), (2, .ref v2), (3, .ref v3), (4, .int v4)] [.long s1, .long s0] h) hf (fun v4 s0 s1 h hf => ?_) (fun j953 hj953 hf => ?_)
                                          · refine z_lcmp dL_law_953 ?_
                                            refine z_if_eq 959 dL_law_954 (by decide) hf (fun hf => ?_) (fun hf => ?_)
                                            · exact Z.sub [0, 1, 2, 3, 4] rfl (hj959 v4 h hf)
                                            · refine z_iconst (0 : Int32) dL_law_957 (by decide) ?_
                                              exact z_zret dL_law_958 rfl (Or.inl rfl) (by cases hf; rfl)
                                          · refine z_if_eq 952 dL_law_945 (by decide) hf (fun hf => ?_) (fun hf => ?_)
                                            · refine z_lconst (0 : Int64) dL_law_952 (by decide) ?_
                                              exact Z.sub [2, 3, 4, 5, 6] rfl (hj953 v4 x103 (0 : Int64) y102.2 hf)
                                            · refine z_lconst (1 : Int64) dL_law_948 (by decide) ?_
                                              refine z_goto 953 dL_law_949 (by decide) ?_
                                              exact Z.sub [2, 3, 4, 5, 6] rfl (hj953 v4 x103 (1 : Int64) y102.2 hf)
                                        · exact Z.sub [2, 3, 4, 5, 6] rfl (hj959 v4 y102.2 hf)
                                    · refine z_iconst (0 : Int32) dL_law_933 (by decide) ?_
                                      exact z_zret dL_law_934 rfl (Or.inl rfl) (by cases hf; rfl)
                                  · rw [if_neg c13] at hf
                                    by_cases c14 : (x7 &&& (31 : Int32)) = (14 : Int32)
                                    · rw [if_pos c14] at hf
                                      refine z_tableIn 962 dL_law_40 (by rw [c14]; decide) (by rw [c14]; decide) (by rw [c14]; rfl) (by decide) ?_
                                      refine z_aload_n 1 dL_law_962 rfl rfl ?_
                                      refine z_aload_n 0 dL_law_963 rfl rfl ?_
                                      refine z_iload 4 dL_law_964 rfl ?_
                                      refine z_iconst (1 : Int32) dL_law_966 (by decide) ?_
                                      refine z_iadd dL_law_967 ?_
                                      refine z_sldB hG dL_law_968 hf fun x104 hf => ?_
                                      refine z_aload_n 3 dL_law_969 rfl rfl ?_
                                      refine z_cW_i (d' := d - 1) (As := [.ref v1, .int x104, .ref v3]) (rest := []) dL_law_970 lk_L_140 hf (fun w1 e1 => zc_L_generated (by omega) e1) (by omega) rfl rfl (Nat.le_of_ble_eq_true rfl) fun y105 hf => ?_
                                      refine z_istore [(5, .int y105.1), (0, .ref sb), (1, .ref v1), (2, .ref v2), (3, .ref v3), (4, .int v4)] dL_law_973 (by decide) rfl ?_
                                      refine z_aload_n 3 dL_law_975 rfl rfl ?_
                                      refine z_aload_n 1 dL_law_976 rfl rfl ?_
                                      refine z_iload 5 dL_law_977 rfl ?_
                                      refine z_iconst (1 : Int32) dL_law_979 (by decide) ?_
                                      refine z_iadd dL_law_980 ?_
                                      refine z_sldB hG dL_law_981 hf fun x106 hf => ?_
                                      refine z_cV_i (d' := d - 1) (As := [.int x106]) (rest := []) dL_law_982 lk_L_142 rfl hf (fun w1 e1 => zc_X9_generated (by omega) e1) (by omega) rfl rfl (Nat.le_of_ble_eq_true rfl) fun y107 hf => ?_
                                      refine z_istore [(6, .int y107.1), (5, .int y105.1), (0, .ref sb), (1, .ref v1), (2, .ref v2), (3, .ref v3), (4, .int v4)] dL_law_985 (by decide) rfl ?_
                                      refine z_aload_n 4 dL_law_987 rfl rfl ?_
                                      refine z_cV_i (d' := d - 1) (As := []) (rest := []) dL_law_988 lk_L_97 rfl hf (fun w1 e1 => zc_X9_thrown (by omega) e1) (by omega) rfl rfl (Nat.le_of_ble_eq_true rfl) fun y108 hf => ?_
                                      refine z_iload 1 dL_law_991 rfl ?_
                                      refine z_icmp_eq 998 dL_law_993 (by decide) hf (fun hf => ?_) (fun hf => ?_)
                                      · refine z_iload 1 dL_law_998 rfl ?_
                                        refine zjn_elim (P := fun (j1015 : Int32 → zH → Option ((Int32 ⊕ Nat) × zH)) => ∀ (v4 : Int32) (h : zH), j1015 v4 h = some w → Z Γ m_L_law d h0 (zoTI w) 1015 [(0, .ref sb), (1, .ref v1), (2, .ref v2), (3, .ref v3), (4, .int v4)] [] h) hf (fun v4 h hf => ?_) (fun j1015 hj1015 hf => ?_)
                                        · refine z_goto 1529 dL_law_1015 (by decide) ?_
                                          exact Z.sub [0, 1, 2, 3, 4] rfl (hj1529 v4 h hf)
                                        · refine z_if_ne 1015 dL_law_1000 (by decide) hf (fun hf => ?_) (fun hf => ?_)
                                          · refine z_aload_n 5 dL_law_1003 rfl rfl ?_
                                            refine z_iconst (0 : Int32) dL_law_1004 (by decide) ?_
                                            refine z_laload dL_law_1005 hf fun x109 hf => ?_
                                            refine z_iload 0 dL_law_1006 rfl ?_
                                            refine z_i2l dL_law_1008 ?_
                                            refine z_lcmp dL_law_1009 ?_
                                            refine z_if_eq 1015 dL_law_1010 (by decide) hf (fun hf => ?_) (fun hf => ?_)
                                            · exact Z.sub [2, 3, 4, 5, 6] rfl (hj1015 v4 y108.2 hf)
                                            · refine z_iconst (0 : Int32) dL_law_1013 (by decide) ?_
                                              exact z_zret dL_law_1014 rfl (Or.inl rfl) (by cases hf; rfl)
                                          · exact Z.sub [2, 3, 4, 5, 6] rfl (hj1015 v4 y108.2 hf)
                                      · refine z_iconst (0 : Int32) dL_law_996 (by decide) ?_
                                        exact z_zret dL_law_997 rfl (Or.inl rfl) (by cases hf; rfl)
                                    · rw [if_neg c14] at hf
                                      by_cases c15 : (x7 &&& (31 : Int32)) = (15 : Int32)
                                      · rw [if_pos c15] at hf
                                        refine z_tableIn 1018 dL_law_40 (by rw [c15]; decide) (by rw [c15]; decide) (by rw [c15]; rfl) (by decide) ?_
                                        refine z_aload_n 1 dL_law_1018 rfl rfl ?_
                                        refine z_aload_n 0 dL_law_1019 rfl rfl ?_
                                        refine z_iload 4 dL_law_1020 rfl ?_
                                        refine z_iconst (1 : Int32) dL_law_1022 (by decide) ?_
                                        refine z_iadd dL_law_1023 ?_
                                        refine z_sldB hG dL_law_1024 hf fun x110 hf => ?_
                                        refine z_aload_n 3 dL_law_1025 rfl rfl ?_
                                        refine z_cW_i (d' := d - 1) (As := [.ref v1, .int x110, .ref v3]) (rest := []) dL_law_1026 lk_L_143 hf (fun w1 e1 => zc_L_fewest (by omega) e1) (by omega) rfl rfl (Nat.le_of_ble_eq_true rfl) fun y111 hf => ?_
                                        refine z_istore [(5, .int y111.1), (0, .ref sb), (1, .ref v1), (2, .ref v2), (3, .ref v3), (4, .int v4)] dL_law_1029 (by decide) rfl ?_
                                        refine z_aload_n 3 dL_law_1031 rfl rfl ?_
                                        refine z_aload_n 1 dL_law_1032 rfl rfl ?_
                                        refine z_iload 5 dL_law_1033 rfl ?_
                                        refine z_iconst (1 : Int32) dL_law_1035 (by decide) ?_
                                        refine z_iadd dL_law_1036 ?_
                                        refine z_sldB hG dL_law_1037 hf fun x112 hf => ?_
                                        refine z_cV_i (d' := d - 1) (As := [.int x112]) (rest := []) dL_law_1038 lk_L_145 rfl hf (fun w1 e1 => zc_X9_fewest (by omega) e1) (by omega) rfl rfl (Nat.le_of_ble_eq_true rfl) fun y113 hf => ?_
                                        refine z_istore [(6, .int y113.1), (5, .int y111.1), (0, .ref sb), (1, .ref v1), (2, .ref v2), (3, .ref v3), (4, .int v4)] dL_law_1041 (by decide) rfl ?_
                                        refine z_aload_n 4 dL_law_1043 rfl rfl ?_
                                        refine z_cV_i (d' := d - 1) (As := []) (rest := []) dL_law_1044 lk_L_97 rfl hf (fun w1 e1 => zc_X9_thrown (by omega) e1) (by omega) rfl rfl (Nat.le_of_ble_eq_true rfl) fun y114 hf => ?_
                                        refine z_iload 1 dL_law_1047 rfl ?_
                                        refine z_icmp_eq 1054 dL_law_1049 (by decide) hf (fun hf => ?_) (fun hf => ?_)
                                        · refine z_iload 1 dL_law_1054 rfl ?_
                                          refine zjn_elim (P := fun (j1071 : Int32 → zH → Option ((Int32 ⊕ Nat) × zH)) => ∀ (v4 : Int32) (h : zH), j1071 v4 h = some w → Z Γ m_L_law d h0 (zoTI w) 1071 [(0, .ref sb), (1, .ref v1), (2, .ref v2), (3, .ref v3), (4, .int v4)] [] h) hf (fun v4 h hf => ?_) (fun j1071 hj1071 hf => ?_)
                                          · refine z_goto 1529 dL_law_1071 (by decide) ?_
                                            exact Z.sub [0, 1, 2, 3, 4] rfl (hj1529 v4 h hf)
                                          · refine z_if_ne 1071 dL_law_1056 (by decide) hf (fun hf => ?_) (fun hf => ?_)
                                            · refine z_aload_n 5 dL_law_1059 rfl rfl ?_
                                              refine z_iconst (0 : Int32) dL_law_1060 (by decide) ?_
                                              refine z_laload dL_law_1061 hf fun x115 hf => ?_
                                              refine z_iload 0 dL_law_1062 rfl ?_
                                              refine z_i2l dL_law_1064 ?_
                                              refine z_lcmp dL_law_1065 ?_
                                              refine z_if_eq 1071 dL_law_1066 (by decide) hf (fun hf => ?_) (fun hf => ?_)
                                              · exact Z.sub [2, 3, 4, 5, 6] rfl (hj1071 v4 y114.2 hf)
                                              · refine z_iconst (0 : Int32) dL_law_1069 (by decide) ?_
                                                exact z_zret dL_law_1070 rfl (Or.inl rfl) (by cases hf; rfl)
                                            · exact Z.sub [2, 3, 4, 5, 6] rfl (hj1071 v4 y114.2 hf)
                                        · refine z_iconst (0 : Int32) dL_law_1052 (by decide) ?_
                                          exact z_zret dL_law_1053 rfl (Or.inl rfl) (by cases hf; rfl)
                                      · rw [if_neg c15] at hf
                                        by_cases c16 : (x7 &&& (31 : Int32)) = (16 : Int32)
                                        · rw [if_pos c16] at hf
                                          refine z_tableIn 1074 dL_law_40 (by rw [c16]; decide) (by rw [c16]; decide) (by rw [c16]; rfl) (by decide) ?_
                                          refine z_aload_n 1 dL_law_1074 rfl rfl ?_
                                          refine z_aload_n 0 dL_law_1075 rfl rfl ?_
                                          refine z_iload 4 dL_law_1076 rfl ?_
                                          refine z_iconst (1 : Int32) dL_law_1078 (by decide) ?_
                                          refine z_iadd dL_law_1079 ?_
                                          refine z_sldB hG dL_law_1080 hf fun x116 hf => ?_
                                          refine z_aload_n 3 dL_law_1081 rfl rfl ?_
                                          refine z_cW_i (d' := d - 1) (As := [.ref v1, .int x116, .ref v3]) (rest := []) dL_law_1082 lk_L_146 hf (fun w1 e1 => zc_L_cheapest (by omega) e1) (by omega) rfl rfl (Nat.le_of_ble_eq_true rfl) fun y117 hf => ?_
                                          refine z_istore [(5, .int y117.1), (0, .ref sb), (1, .ref v1), (2, .ref v2), (3, .ref v3), (4, .int v4)] dL_law_1085 (by decide) rfl ?_
                                          refine z_aload_n 3 dL_law_1087 rfl rfl ?_
                                          refine z_aload_n 1 dL_law_1088 rfl rfl ?_
                                          refine z_iload 5 dL_law_1089 rfl ?_
                                          refine z_iconst (1 : Int32) dL_law_1091 (by decide) ?_
                                          refine z_iadd dL_law_1092 ?_
                                          refine z_sldB hG dL_law_1093 hf fun x118 hf => ?_
                                          refine z_cV_i (d' := d - 1) (As := [.int x118]) (rest := []) dL_law_1094 lk_L_148 rfl hf (fun w1 e1 => zc_X9_cheapest (by omega) e1) (by omega) rfl rfl (Nat.le_of_ble_eq_true rfl) fun y119 hf => ?_
                                          refine z_istore [(6, .int y119.1), (5, .int y117.1), (0, .ref sb), (1, .ref v1), (2, .ref v2), (3, .ref v3), (4, .int v4)] dL_law_1097 (by decide) rfl ?_
                                          refine z_aload_n 4 dL_law_1099 rfl rfl ?_
                                          refine z_cV_i (d' := d - 1) (As := []) (rest := []) dL_law_1100 lk_L_97 rfl hf (fun w1 e1 => zc_X9_thrown (by omega) e1) (by omega) rfl rfl (Nat.le_of_ble_eq_true rfl) fun y120 hf => ?_
                                          refine z_iload 1 dL_law_1103 rfl ?_
                                          refine z_icmp_eq 1110 dL_law_1105 (by decide) hf (fun hf => ?_) (fun hf => ?_)
                                          · refine z_iload 1 dL_law_1110 rfl ?_
                                            refine zjn_elim (P := fun (j1127 : Int32 → zH → Option ((Int32 ⊕ Nat) × zH)) => ∀ (v4 : Int32) (h : zH), j1127 v4 h = some w → Z Γ m_L_law d h0 (zoTI w) 1127 [(0, .ref sb), (1, .ref v1), (2, .ref v2), (3, .ref v3), (4, .int v4)] [] h) hf (fun v4 h hf => ?_) (fun j1127 hj1127 hf => ?_)
                                            · refine z_goto 1529 dL_law_1127 (by decide) ?_
                                              exact Z.sub [0, 1, 2, 3, 4] rfl (hj1529 v4 h hf)
                                            · refine z_if_ne 1127 dL_law_1112 (by decide) hf (fun hf => ?_) (fun hf => ?_)
                                              · refine z_aload_n 5 dL_law_1115 rfl rfl ?_
                                                refine z_iconst (0 : Int32) dL_law_1116 (by decide) ?_
                                                refine z_laload dL_law_1117 hf fun x121 hf => ?_
                                                refine z_iload 0 dL_law_1118 rfl ?_
                                                refine z_i2l dL_law_1120 ?_
                                                refine z_lcmp dL_law_1121 ?_
                                                refine z_if_eq 1127 dL_law_1122 (by decide) hf (fun hf => ?_) (fun hf => ?_)
                                                · exact Z.sub [2, 3, 4, 5, 6] rfl (hj1127 v4 y120.2 hf)
                                                · refine z_iconst (0 : Int32) dL_law_1125 (by decide) ?_
                                                  exact z_zret dL_law_1126 rfl (Or.inl rfl) (by cases hf; rfl)
                                              · exact Z.sub [2, 3, 4, 5, 6] rfl (hj1127 v4 y120.2 hf)
                                          · refine z_iconst (0 : Int32) dL_law_1108 (by decide) ?_
                                            exact z_zret dL_law_1109 rfl (Or.inl rfl) (by cases hf; rfl)
                                        · rw [if_neg c16] at hf
                                          by_cases c17 : (x7 &&& (31 : Int32)) = (17 : Int32)
                                          · rw [if_pos c17] at hf
                                            refine z_tableIn 1130 dL_law_40 (by rw [c17]; decide) (by rw [c17]; decide) (by rw [c17]; rfl) (by decide) ?_
                                            refine z_aload_n 1 dL_law_1130 rfl rfl ?_
                                            refine z_aload_n 0 dL_law_1131 rfl rfl ?_
                                            refine z_iload 4 dL_law_1132 rfl ?_
                                            refine z_iconst (1 : Int32) dL_law_1134 (by decide) ?_
                                            refine z_iadd dL_law_1135 ?_
                                            refine z_sldB hG dL_law_1136 hf fun x122 hf => ?_
                                            refine z_aload_n 3 dL_law_1137 rfl rfl ?_
                                            refine z_cW_i (d' := d - 1) (As := [.ref v1, .int x122, .ref v3]) (rest := []) dL_law_1138 lk_L_149 hf (fun w1 e1 => zc_L_opening (by omega) e1) (by omega) rfl rfl (Nat.le_of_ble_eq_true rfl) fun y123 hf => ?_
                                            refine z_istore [(5, .int y123.1), (0, .ref sb), (1, .ref v1), (2, .ref v2), (3, .ref v3), (4, .int v4)] dL_law_1141 (by decide) rfl ?_
                                            refine z_aload_n 3 dL_law_1143 rfl rfl ?_
                                            refine z_aload_n 1 dL_law_1144 rfl rfl ?_
                                            refine z_iload 5 dL_law_1145 rfl ?_
                                            refine z_iconst (1 : Int32) dL_law_1147 (by decide) ?_
                                            refine z_iadd dL_law_1148 ?_
                                            refine z_sldB hG dL_law_1149 hf fun x124 hf => ?_
                                            refine z_cV_i (d' := d - 1) (As := [.int x124]) (rest := []) dL_law_1150 lk_L_151 rfl hf (fun w1 e1 => zc_X9_opening (by omega) e1) (by omega) rfl rfl (Nat.le_of_ble_eq_true rfl) fun y125 hf => ?_
                                            refine z_istore [(6, .int y125.1), (5, .int y123.1), (0, .ref sb), (1, .ref v1), (2, .ref v2), (3, .ref v3), (4, .int v4)] dL_law_1153 (by decide) rfl ?_
                                            refine z_aload_n 4 dL_law_1155 rfl rfl ?_
                                            refine z_cV_i (d' := d - 1) (As := []) (rest := []) dL_law_1156 lk_L_97 rfl hf (fun w1 e1 => zc_X9_thrown (by omega) e1) (by omega) rfl rfl (Nat.le_of_ble_eq_true rfl) fun y126 hf => ?_
                                            refine z_iload 1 dL_law_1159 rfl ?_
                                            refine z_icmp_eq 1166 dL_law_1161 (by decide) hf (fun hf => ?_) (fun hf => ?_)
                                            · refine z_iload 1 dL_law_1166 rfl ?_
                                              refine zjn_elim (P := fun (j1183 : Int32 → zH → Option ((Int32 ⊕ Nat) × zH)) => ∀ (v4 : Int32) (h : zH), j1183 v4 h = some w → Z Γ m_L_law d h0 (zoTI w) 1183 [(0, .ref sb), (1, .ref v1), (2, .ref v2), (3, .ref v3), (4, .int v4)] [] h) hf (fun v4 h hf => ?_) (fun j1183 hj1183 hf => ?_)
                                              · refine z_goto 1529 dL_law_1183 (by decide) ?_
                                                exact Z.sub [0, 1, 2, 3, 4] rfl (hj1529 v4 h hf)
                                              · refine z_if_ne 1183 dL_law_1168 (by decide) hf (fun hf => ?_) (fun hf => ?_)
                                                · refine z_aload_n 5 dL_law_1171 rfl rfl ?_
                                                  refine z_iconst (0 : Int32) dL_law_1172 (by decide) ?_
                                                  refine z_laload dL_law_1173 hf fun x127 hf => ?_
                                                  refine z_iload 0 dL_law_1174 rfl ?_
                                                  refine z_i2l dL_law_1176 ?_
                                                  refine z_lcmp dL_law_1177 ?_
                                                  refine z_if_eq 1183 dL_law_1178 (by decide) hf (fun hf => ?_) (fun hf => ?_)
                                                  · exact Z.sub [2, 3, 4, 5, 6] rfl (hj1183 v4 y126.2 hf)
                                                  · refine z_iconst (0 : Int32) dL_law_1181 (by decide) ?_
                                                    exact z_zret dL_law_1182 rfl (Or.inl rfl) (by cases hf; rfl)
                                                · exact Z.sub [2, 3, 4, 5, 6] rfl (hj1183 v4 y126.2 hf)
                                            · refine z_iconst (0 : Int32) dL_law_1164 (by decide) ?_
                                              exact z_zret dL_law_1165 rfl (Or.inl rfl) (by cases hf; rfl)
                                          · rw [if_neg c17] at hf
                                            by_cases c18 : (x7 &&& (31 : Int32)) = (18 : Int32)
                                            · rw [if_pos c18] at hf
                                              refine z_tableIn 1186 dL_law_40 (by rw [c18]; decide) (by rw [c18]; decide) (by rw [c18]; rfl) (by decide) ?_
                                              refine z_aload_n 1 dL_law_1186 rfl rfl ?_
                                              refine z_aload_n 0 dL_law_1187 rfl rfl ?_
                                              refine z_iload 4 dL_law_1188 rfl ?_
                                              refine z_iconst (1 : Int32) dL_law_1190 (by decide) ?_
                                              refine z_iadd dL_law_1191 ?_
                                              refine z_sldB hG dL_law_1192 hf fun x128 hf => ?_
                                              refine z_aload_n 3 dL_law_1193 rfl rfl ?_
                                              refine z_cW_i (d' := d - 1) (As := [.ref v1, .int x128, .ref v3]) (rest := []) dL_law_1194 lk_L_152 hf (fun w1 e1 => zc_L_play (by omega) e1) (by omega) rfl rfl (Nat.le_of_ble_eq_true rfl) fun y129 hf => ?_
                                              refine z_istore [(5, .int y129.1), (0, .ref sb), (1, .ref v1), (2, .ref v2), (3, .ref v3), (4, .int v4)] dL_law_1197 (by decide) rfl ?_
                                              refine z_aload_n 3 dL_law_1199 rfl rfl ?_
                                              refine z_aload_n 1 dL_law_1200 rfl rfl ?_
                                              refine z_iload 5 dL_law_1201 rfl ?_
                                              refine z_iconst (1 : Int32) dL_law_1203 (by decide) ?_
                                              refine z_iadd dL_law_1204 ?_
                                              refine z_sldB hG dL_law_1205 hf fun x130 hf => ?_
                                              refine z_cV_i (d' := d - 1) (As := [.int x130]) (rest := []) dL_law_1206 lk_L_154 rfl hf (fun w1 e1 => zc_X9_play (by omega) e1) (by omega) rfl rfl (Nat.le_of_ble_eq_true rfl) fun y131 hf => ?_
                                              refine z_istore [(6, .int y131.1), (5, .int y129.1), (0, .ref sb), (1, .ref v1), (2, .ref v2), (3, .ref v3), (4, .int v4)] dL_law_1209 (by decide) rfl ?_
                                              refine z_aload_n 4 dL_law_1211 rfl rfl ?_
                                              refine z_cV_i (d' := d - 1) (As := []) (rest := []) dL_law_1212 lk_L_97 rfl hf (fun w1 e1 => zc_X9_thrown (by omega) e1) (by omega) rfl rfl (Nat.le_of_ble_eq_true rfl) fun y132 hf => ?_
                                              refine z_iload 1 dL_law_1215 rfl ?_
                                              refine z_icmp_eq 1222 dL_law_1217 (by decide) hf (fun hf => ?_) (fun hf => ?_)
                                              · refine z_iload 1 dL_law_1222 rfl ?_
                                                refine zjn_elim (P := fun (j1239 : Int32 → zH → Option ((Int32 ⊕ Nat) × zH)) => ∀ (v4 : Int32) (h : zH), j1239 v4 h = some w → Z Γ m_L_law d h0 (zoTI w) 1239 [(0, .ref sb), (1, .ref v1), (2, .ref v2), (3, .ref v3), (4, .int v4)] [] h) hf (fun v4 h hf => ?_) (fun j1239 hj1239 hf => ?_)
                                                · refine z_goto 1529 dL_law_1239 (by decide) ?_
                                                  exact Z.sub [0, 1, 2, 3, 4] rfl (hj1529 v4 h hf)
                                                · refine z_if_ne 1239 dL_law_1224 (by decide) hf (fun hf => ?_) (fun hf => ?_)
                                                  · refine z_aload_n 5 dL_law_1227 rfl rfl ?_
                                                    refine z_iconst (0 : Int32) dL_law_1228 (by decide) ?_
                                                    refine z_laload dL_law_1229 hf fun x133 hf => ?_
                                                    refine z_iload 0 dL_law_1230 rfl ?_
                                                    refine z_i2l dL_law_1232 ?_
                                                    refine z_lcmp dL_law_1233 ?_
                                                    refine z_if_eq 1239 dL_law_1234 (by decide) hf (fun hf => ?_) (fun hf => ?_)
                                                    · exact Z.sub [2, 3, 4, 5, 6] rfl (hj1239 v4 y132.2 hf)
                                                    · refine z_iconst (0 : Int32) dL_law_1237 (by decide) ?_
                                                      exact z_zret dL_law_1238 rfl (Or.inl rfl) (by cases hf; rfl)
                                                  · exact Z.sub [2, 3, 4, 5, 6] rfl (hj1239 v4 y132.2 hf)
                                              · refine z_iconst (0 : Int32) dL_law_1220 (by decide) ?_
                                                exact z_zret dL_law_1221 rfl (Or.inl rfl) (by cases hf; rfl)
                                            · rw [if_neg c18] at hf
                                              by_cases c19 : (x7 &&& (31 : Int32)) = (19 : Int32)
                                              · rw [if_pos c19] at hf
                                                refine z_tableIn 1242 dL_law_40 (by rw [c19]; decide) (by rw [c19]; decide) (by rw [c19]; rfl) (by decide) ?_
                                                refine z_aload_n 1 dL_law_1242 rfl rfl ?_
                                                refine z_aload_n 0 dL_law_1243 rfl rfl ?_
                                                refine z_iload 4 dL_law_1244 rfl ?_
                                                refine z_iconst (1 : Int32) dL_law_1246 (by decide) ?_
                                                refine z_iadd dL_law_1247 ?_
                                                refine z_sldB hG dL_law_1248 hf fun x134 hf => ?_
                                                refine z_aload_n 0 dL_law_1249 rfl rfl ?_
                                                refine z_iload 4 dL_law_1250 rfl ?_
                                                refine z_iconst (2 : Int32) dL_law_1252 (by decide) ?_
                                                refine z_iadd dL_law_1253 ?_
                                                refine z_sldB hG dL_law_1254 hf fun x135 hf => ?_
                                                refine z_aload_n 3 dL_law_1255 rfl rfl ?_
                                                refine z_cW_i (d' := d - 1) (As := [.ref v1, .int x134, .int x135, .ref v3]) (rest := []) dL_law_1256 lk_L_155 hf (fun w1 e1 => zc_L_cancel (by omega) e1) (by omega) rfl rfl (Nat.le_of_ble_eq_true rfl) fun y136 hf => ?_
                                                refine z_istore [(5, .int y136.1), (0, .ref sb), (1, .ref v1), (2, .ref v2), (3, .ref v3), (4, .int v4)] dL_law_1259 (by decide) rfl ?_
                                                refine z_aload_n 3 dL_law_1261 rfl rfl ?_
                                                refine z_aload_n 1 dL_law_1262 rfl rfl ?_
                                                refine z_iload 5 dL_law_1263 rfl ?_
                                                refine z_iconst (1 : Int32) dL_law_1265 (by decide) ?_
                                                refine z_iadd dL_law_1266 ?_
                                                refine z_sldB hG dL_law_1267 hf fun x137 hf => ?_
                                                refine z_aload_n 1 dL_law_1268 rfl rfl ?_
                                                refine z_iload 5 dL_law_1269 rfl ?_
                                                refine z_iconst (2 : Int32) dL_law_1271 (by decide) ?_
                                                refine z_iadd dL_law_1272 ?_
                                                refine z_sldB hG dL_law_1273 hf fun x138 hf => ?_
                                                refine z_cV_i (d' := d - 1) (As := [.int x137, .int x138]) (rest := []) dL_law_1274 lk_L_157 rfl hf (fun w1 e1 => zc_X9_cancel (by omega) e1) (by omega) rfl rfl (Nat.le_of_ble_eq_true rfl) fun y139 hf => ?_
                                                refine z_istore [(6, .int y139.1), (5, .int y136.1), (0, .ref sb), (1, .ref v1), (2, .ref v2), (3, .ref v3), (4, .int v4)] dL_law_1277 (by decide) rfl ?_
                                                refine z_aload_n 4 dL_law_1279 rfl rfl ?_
                                                refine z_cV_i (d' := d - 1) (As := []) (rest := []) dL_law_1280 lk_L_97 rfl hf (fun w1 e1 => zc_X9_thrown (by omega) e1) (by omega) rfl rfl (Nat.le_of_ble_eq_true rfl) fun y140 hf => ?_
                                                refine z_iload 1 dL_law_1283 rfl ?_
                                                refine z_icmp_eq 1290 dL_law_1285 (by decide) hf (fun hf => ?_) (fun hf => ?_)
                                                · refine z_iload 1 dL_law_1290 rfl ?_
                                                  refine zjn_elim (P := fun (j1307 : Int32 → zH → Option ((Int32 ⊕ Nat) × zH)) => ∀ (v4 : Int32) (h : zH), j1307 v4 h = some w → Z Γ m_L_law d h0 (zoTI w) 1307 [(0, .ref sb), (1, .ref v1), (2, .ref v2), (3, .ref v3), (4, .int v4)] [] h) hf (fun v4 h hf => ?_) (fun j1307 hj1307 hf => ?_)
                                                  · refine z_goto 1529 dL_law_1307 (by decide) ?_
                                                    exact Z.sub [0, 1, 2, 3, 4] rfl (hj1529 v4 h hf)
                                                  · refine z_if_ne 1307 dL_law_1292 (by decide) hf (fun hf => ?_) (fun hf => ?_)
                                                    · refine z_aload_n 5 dL_law_1295 rfl rfl ?_
                                                      refine z_iconst (0 : Int32) dL_law_1296 (by decide) ?_
                                                      refine z_laload dL_law_1297 hf fun x141 hf => ?_
                                                      refine z_iload 0 dL_law_1298 rfl ?_
                                                      refine z_i2l dL_law_1300 ?_
                                                      refine z_lcmp dL_law_1301 ?_
                                                      refine z_if_eq 1307 dL_law_1302 (by decide) hf (fun hf => ?_) (fun hf => ?_)
                                                      · exact Z.sub [2, 3, 4, 5, 6] rfl (hj1307 v4 y140.2 hf)
                                                      · refine z_iconst (0 : Int32) dL_law_1305 (by decide) ?_
                                                        exact z_zret dL_law_1306 rfl (Or.inl rfl) (by cases hf; rfl)
                                                    · exact Z.sub [2, 3, 4, 5, 6] rfl (hj1307 v4 y140.2 hf)
                                                · refine z_iconst (0 : Int32) dL_law_1288 (by decide) ?_
                                                  exact z_zret dL_law_1289 rfl (Or.inl rfl) (by cases hf; rfl)
                                              · rw [if_neg c19] at hf
                                                by_cases c20 : (x7 &&& (31 : Int32)) = (20 : Int32)
                                                · rw [if_pos c20] at hf
                                                  refine z_tableIn 1310 dL_law_40 (by rw [c20]; decide) (by rw [c20]; decide) (by rw [c20]; rfl) (by decide) ?_
                                                  refine z_aload_n 1 dL_law_1310 rfl rfl ?_
                                                  refine z_aload_n 3 dL_law_1311 rfl rfl ?_
                                                  refine z_cW_i (d' := d - 1) (As := [.ref v1, .ref v3]) (rest := []) dL_law_1312 lk_L_158 hf (fun w1 e1 => zc_L_pass (by omega) e1) (by omega) rfl rfl (Nat.le_of_ble_eq_true rfl) fun y142 hf => ?_
                                                  refine z_istore [(5, .int y142.1), (0, .ref sb), (1, .ref v1), (2, .ref v2), (3, .ref v3), (4, .int v4)] dL_law_1315 (by decide) rfl ?_
                                                  refine z_aload_n 3 dL_law_1317 rfl rfl ?_
                                                  refine z_cV_i (d' := d - 1) (As := []) (rest := []) dL_law_1318 lk_L_161 rfl hf (fun w1 e1 => zc_X9_pass (by omega) e1) (by omega) rfl rfl (Nat.le_of_ble_eq_true rfl) fun y143 hf => ?_
                                                  refine z_istore [(6, .int y143.1), (5, .int y142.1), (0, .ref sb), (1, .ref v1), (2, .ref v2), (3, .ref v3), (4, .int v4)] dL_law_1321 (by decide) rfl ?_
                                                  refine z_aload_n 4 dL_law_1323 rfl rfl ?_
                                                  refine z_cV_i (d' := d - 1) (As := []) (rest := []) dL_law_1324 lk_L_97 rfl hf (fun w1 e1 => zc_X9_thrown (by omega) e1) (by omega) rfl rfl (Nat.le_of_ble_eq_true rfl) fun y144 hf => ?_
                                                  refine z_iload 1 dL_law_1327 rfl ?_
                                                  refine z_icmp_eq 1334 dL_law_1329 (by decide) hf (fun hf => ?_) (fun hf => ?_)
                                                  · refine z_iload 1 dL_law_1334 rfl ?_
                                                    refine zjn_elim (P := fun (j1351 : Int32 → zH → Option ((Int32 ⊕ Nat) × zH)) => ∀ (v4 : Int32) (h : zH), j1351 v4 h = some w → Z Γ m_L_law d h0 (zoTI w) 1351 [(0, .ref sb), (1, .ref v1), (2, .ref v2), (3, .ref v3), (4, .int v4)] [] h) hf (fun v4 h hf => ?_) (fun j1351 hj1351 hf => ?_)
                                                    · refine z_goto 1529 dL_law_1351 (by decide) ?_
                                                      exact Z.sub [0, 1, 2, 3, 4] rfl (hj1529 v4 h hf)
                                                    · refine z_if_ne 1351 dL_law_1336 (by decide) hf (fun hf => ?_) (fun hf => ?_)
                                                      · refine z_aload_n 5 dL_law_1339 rfl rfl ?_
                                                        refine z_iconst (0 : Int32) dL_law_1340 (by decide) ?_
                                                        refine z_laload dL_law_1341 hf fun x145 hf => ?_
                                                        refine z_iload 0 dL_law_1342 rfl ?_
                                                        refine z_i2l dL_law_1344 ?_
                                                        refine z_lcmp dL_law_1345 ?_
                                                        refine z_if_eq 1351 dL_law_1346 (by decide) hf (fun hf => ?_) (fun hf => ?_)
                                                        · exact Z.sub [2, 3, 4, 5, 6] rfl (hj1351 v4 y144.2 hf)
                                                        · refine z_iconst (0 : Int32) dL_law_1349 (by decide) ?_
                                                          exact z_zret dL_law_1350 rfl (Or.inl rfl) (by cases hf; rfl)
                                                      · exact Z.sub [2, 3, 4, 5, 6] rfl (hj1351 v4 y144.2 hf)
                                                  · refine z_iconst (0 : Int32) dL_law_1332 (by decide) ?_
                                                    exact z_zret dL_law_1333 rfl (Or.inl rfl) (by cases hf; rfl)
                                                · rw [if_neg c20] at hf
                                                  by_cases c21 : (x7 &&& (31 : Int32)) = (21 : Int32)
                                                  · rw [if_pos c21] at hf
                                                    refine z_tableIn 1354 dL_law_40 (by rw [c21]; decide) (by rw [c21]; decide) (by rw [c21]; rfl) (by decide) ?_
                                                    refine z_aload_n 1 dL_law_1354 rfl rfl ?_
                                                    refine z_aload_n 0 dL_law_1355 rfl rfl ?_
                                                    refine z_iload 4 dL_law_1356 rfl ?_
                                                    refine z_iconst (1 : Int32) dL_law_1358 (by decide) ?_
                                                    refine z_iadd dL_law_1359 ?_
                                                    refine z_sldB hG dL_law_1360 hf fun x146 hf => ?_
                                                    refine z_aload_n 0 dL_law_1361 rfl rfl ?_
                                                    refine z_iload 4 dL_law_1362 rfl ?_
                                                    refine z_iconst (2 : Int32) dL_law_1364 (by decide) ?_
                                                    refine z_iadd dL_law_1365 ?_
                                                    refine z_sldB hG dL_law_1366 hf fun x147 hf => ?_
                                                    refine z_aload_n 0 dL_law_1367 rfl rfl ?_
                                                    refine z_iload 4 dL_law_1368 rfl ?_
                                                    refine z_iconst (3 : Int32) dL_law_1370 (by decide) ?_
                                                    refine z_iadd dL_law_1371 ?_
                                                    refine z_sldB hG dL_law_1372 hf fun x148 hf => ?_
                                                    refine z_aload_n 3 dL_law_1373 rfl rfl ?_
                                                    refine z_cW_i (d' := d - 1) (As := [.ref v1, .int x146, .int x147, .int x148, .ref v3]) (rest := []) dL_law_1374 lk_L_162 hf (fun w1 e1 => zc_L_give (by omega) e1) (by omega) rfl rfl (Nat.le_of_ble_eq_true rfl) fun y149 hf => ?_
                                                    refine z_istore [(5, .int y149.1), (0, .ref sb), (1, .ref v1), (2, .ref v2), (3, .ref v3), (4, .int v4)] dL_law_1377 (by decide) rfl ?_
                                                    refine z_aload_n 3 dL_law_1379 rfl rfl ?_
                                                    refine z_aload_n 1 dL_law_1380 rfl rfl ?_
                                                    refine z_iload 5 dL_law_1381 rfl ?_
                                                    refine z_iconst (1 : Int32) dL_law_1383 (by decide) ?_
                                                    refine z_iadd dL_law_1384 ?_
                                                    refine z_sldB hG dL_law_1385 hf fun x150 hf => ?_
                                                    refine z_aload_n 1 dL_law_1386 rfl rfl ?_
                                                    refine z_iload 5 dL_law_1387 rfl ?_
                                                    refine z_iconst (2 : Int32) dL_law_1389 (by decide) ?_
                                                    refine z_iadd dL_law_1390 ?_
                                                    refine z_sldB hG dL_law_1391 hf fun x151 hf => ?_
                                                    refine z_aload_n 1 dL_law_1392 rfl rfl ?_
                                                    refine z_iload 5 dL_law_1393 rfl ?_
                                                    refine z_iconst (3 : Int32) dL_law_1395 (by decide) ?_
                                                    refine z_iadd dL_law_1396 ?_
                                                    refine z_sldB hG dL_law_1397 hf fun x152 hf => ?_
                                                    refine z_cV_i (d' := d - 1) (As := [.int x150, .int x151, .int x152]) (rest := []) dL_law_1398 lk_L_164 rfl hf (fun w1 e1 => zc_X9_give (by omega) e1) (by omega) rfl rfl (Nat.le_of_ble_eq_true rfl) fun y153 hf => ?_
                                                    refine z_istore [(6, .int y153.1), (5, .int y149.1), (0, .ref sb), (1, .ref v1), (2, .ref v2), (3, .ref v3), (4, .int v4)] dL_law_1401 (by decide) rfl ?_
                                                    refine z_aload_n 4 dL_law_1403 rfl rfl ?_
                                                    refine z_cV_i (d' := d - 1) (As := []) (rest := []) dL_law_1404 lk_L_97 rfl hf (fun w1 e1 => zc_X9_thrown (by omega) e1) (by omega) rfl rfl (Nat.le_of_ble_eq_true rfl) fun y154 hf => ?_
                                                    refine z_iload 1 dL_law_1407 rfl ?_
                                                    refine z_icmp_eq 1414 dL_law_1409 (by decide) hf (fun hf => ?_) (fun hf => ?_)
                                                    · refine z_iload 1 dL_law_1414 rfl ?_
                                                      refine zjn_elim (P := fun (j1431 : Int32 → zH → Option ((Int32 ⊕ Nat) × zH)) => ∀ (v4 : Int32) (h : zH), j1431 v4 h = some w → Z Γ m_L_law d h0 (zoTI w) 1431 [(0, .ref sb), (1, .ref v1), (2, .ref v2), (3, .ref v3), (4, .int v4)] [] h) hf (fun v4 h hf => ?_) (fun j1431 hj1431 hf => ?_)
                                                      · refine z_goto 1529 dL_law_1431 (by decide) ?_
                                                        exact Z.sub [0, 1, 2, 3, 4] rfl (hj1529 v4 h hf)
                                                      · refine z_if_ne 1431 dL_law_1416 (by decide) hf (fun hf => ?_) (fun hf => ?_)
                                                        · refine z_aload_n 5 dL_law_1419 rfl rfl ?_
                                                          refine z_iconst (0 : Int32) dL_law_1420 (by decide) ?_
                                                          refine z_laload dL_law_1421 hf fun x155 hf => ?_
                                                          refine z_iload 0 dL_law_1422 rfl ?_
                                                          refine z_i2l dL_law_1424 ?_
                                                          refine z_lcmp dL_law_1425 ?_
                                                          refine z_if_eq 1431 dL_law_1426 (by decide) hf (fun hf => ?_) (fun hf => ?_)
                                                          · exact Z.sub [2, 3, 4, 5, 6] rfl (hj1431 v4 y154.2 hf)
                                                          · refine z_iconst (0 : Int32) dL_law_1429 (by decide) ?_
                                                            exact z_zret dL_law_1430 rfl (Or.inl rfl) (by cases hf; rfl)
                                                        · exact Z.sub [2, 3, 4, 5, 6] rfl (hj1431 v4 y154.2 hf)
                                                    · refine z_iconst (0 : Int32) dL_law_1412 (by decide) ?_
                                                      exact z_zret dL_law_1413 rfl (Or.inl rfl) (by cases hf; rfl)
                                                  · rw [if_neg c21] at hf
                                                    by_cases c22 : (x7 &&& (31 : Int32)) = (22 : Int32)
                                                    · rw [if_pos c22] at hf
                                                      refine z_tableIn 1434 dL_law_40 (by rw [c22]; decide) (by rw [c22]; decide) (by rw [c22]; rfl) (by decide) ?_
                                                      refine z_aload_n 1 dL_law_1434 rfl rfl ?_
                                                      refine z_aload_n 0 dL_law_1435 rfl rfl ?_
                                                      refine z_iload 4 dL_law_1436 rfl ?_
                                                      refine z_iconst (1 : Int32) dL_law_1438 (by decide) ?_
                                                      refine z_iadd dL_law_1439 ?_
                                                      refine z_sldB hG dL_law_1440 hf fun x156 hf => ?_
                                                      refine z_aload_n 0 dL_law_1441 rfl rfl ?_
                                                      refine z_iload 4 dL_law_1442 rfl ?_
                                                      refine z_iconst (2 : Int32) dL_law_1444 (by decide) ?_
                                                      refine z_iadd dL_law_1445 ?_
                                                      refine z_sldB hG dL_law_1446 hf fun x157 hf => ?_
                                                      refine z_aload_n 3 dL_law_1447 rfl rfl ?_
                                                      refine z_cW_i (d' := d - 1) (As := [.ref v1, .int x156, .int x157, .ref v3]) (rest := []) dL_law_1448 lk_L_165 hf (fun w1 e1 => zc_L_discard (by omega) e1) (by omega) rfl rfl (Nat.le_of_ble_eq_true rfl) fun y158 hf => ?_
                                                      refine z_istore [(5, .int y158.1), (0, .ref sb), (1, .ref v1), (2, .ref v2), (3, .ref v3), (4, .int v4)] dL_law_1451 (by decide) rfl ?_
                                                      refine z_aload_n 3 dL_law_1453 rfl rfl ?_
                                                      refine z_aload_n 1 dL_law_1454 rfl rfl ?_
                                                      refine z_iload 5 dL_law_1455 rfl ?_
                                                      refine z_iconst (1 : Int32) dL_law_1457 (by decide) ?_
                                                      refine z_iadd dL_law_1458 ?_
                                                      refine z_sldB hG dL_law_1459 hf fun x159 hf => ?_
                                                      refine z_aload_n 1 dL_law_1460 rfl rfl ?_
                                                      refine z_iload 5 dL_law_1461 rfl ?_
                                                      refine z_iconst (2 : Int32) dL_law_1463 (by decide) ?_
                                                      refine z_iadd dL_law_1464 ?_
                                                      refine z_sldB hG dL_law_1465 hf fun x160 hf => ?_
                                                      refine z_cV_i (d' := d - 1) (As := [.int x159, .int x160]) (rest := []) dL_law_1466 lk_L_167 rfl hf (fun w1 e1 => zc_X9_discard (by omega) e1) (by omega) rfl rfl (Nat.le_of_ble_eq_true rfl) fun y161 hf => ?_
                                                      refine z_istore [(6, .int y161.1), (5, .int y158.1), (0, .ref sb), (1, .ref v1), (2, .ref v2), (3, .ref v3), (4, .int v4)] dL_law_1469 (by decide) rfl ?_
                                                      refine z_aload_n 4 dL_law_1471 rfl rfl ?_
                                                      refine z_cV_i (d' := d - 1) (As := []) (rest := []) dL_law_1472 lk_L_97 rfl hf (fun w1 e1 => zc_X9_thrown (by omega) e1) (by omega) rfl rfl (Nat.le_of_ble_eq_true rfl) fun y162 hf => ?_
                                                      refine z_iload 1 dL_law_1475 rfl ?_
                                                      refine z_icmp_eq 1482 dL_law_1477 (by decide) hf (fun hf => ?_) (fun hf => ?_)
                                                      · refine z_iload 1 dL_law_1482 rfl ?_
                                                        refine zjn_elim (P := fun (j1499 : Int32 → zH → Option ((Int32 ⊕ Nat) × zH)) => ∀ (v4 : Int32) (h : zH), j1499 v4 h = some w → Z Γ m_L_law d h0 (zoTI w) 1499 [(0, .ref sb), (1, .ref v1), (2, .ref v2), (3, .ref v3), (4, .int v4)] [] h) hf (fun v4 h hf => ?_) (fun j1499 hj1499 hf => ?_)
                                                        · refine z_goto 1529 dL_law_1499 (by decide) ?_
                                                          exact Z.sub [0, 1, 2, 3, 4] rfl (hj1529 v4 h hf)
                                                        · refine z_if_ne 1499 dL_law_1484 (by decide) hf (fun hf => ?_) (fun hf => ?_)
                                                          · refine z_aload_n 5 dL_law_1487 rfl rfl ?_
                                                            refine z_iconst (0 : Int32) dL_law_1488 (by decide) ?_
                                                            refine z_laload dL_law_1489 hf fun x163 hf => ?_
                                                            refine z_iload 0 dL_law_1490 rfl ?_
                                                            refine z_i2l dL_law_1492 ?_
                                                            refine z_lcmp dL_law_1493 ?_
                                                            refine z_if_eq 1499 dL_law_1494 (by decide) hf (fun hf => ?_) (fun hf => ?_)
                                                            · exact Z.sub [2, 3, 4, 5, 6] rfl (hj1499 v4 y162.2 hf)
                                                            · refine z_iconst (0 : Int32) dL_law_1497 (by decide) ?_
                                                              exact z_zret dL_law_1498 rfl (Or.inl rfl) (by cases hf; rfl)
                                                          · exact Z.sub [2, 3, 4, 5, 6] rfl (hj1499 v4 y162.2 hf)
                                                      · refine z_iconst (0 : Int32) dL_law_1480 (by decide) ?_
                                                        exact z_zret dL_law_1481 rfl (Or.inl rfl) (by cases hf; rfl)
                                                    · rw [if_neg c22] at hf
                                                      by_cases c23 : (x7 &&& (31 : Int32)) = (23 : Int32)
                                                      · rw [if_pos c23] at hf
                                                        refine z_tableIn 1502 dL_law_40 (by rw [c23]; decide) (by rw [c23]; decide) (by rw [c23]; rfl) (by decide) ?_
                                                        refine z_aload_n 1 dL_law_1502 rfl rfl ?_
                                                        refine z_cV_i (d' := d - 1) (As := []) (rest := []) dL_law_1503 lk_L_168 rfl hf (fun w1 e1 => zc_X8_undo (by omega) e1) (by omega) rfl rfl (Nat.le_of_ble_eq_true rfl) fun y164 hf => ?_
                                                        refine z_aload_n 2 dL_law_1506 rfl rfl ?_
                                                        refine z_cV_i (d' := d - 1) (As := []) (rest := [.int y164.1]) dL_law_1507 lk_L_171 rfl hf (fun w1 e1 => zc_X9_undo (by omega) e1) (by omega) rfl rfl (Nat.le_of_ble_eq_true rfl) fun y165 hf => ?_
                                                        refine z_icmp_eq 1529 dL_law_1510 (by decide) hf (fun hf => ?_) (fun hf => ?_)
                                                        · exact Z.sub [0, 1, 2, 3, 4] rfl (hj1529 v4 y165.2 hf)
                                                        · refine z_iconst (0 : Int32) dL_law_1513 (by decide) ?_
                                                          exact z_zret dL_law_1514 rfl (Or.inl rfl) (by cases hf; rfl)
                                                      · rw [if_neg c23] at hf
                                                        by_cases c24 : (x7 &&& (31 : Int32)) = (24 : Int32)
                                                        · rw [if_pos c24] at hf
                                                          refine z_tableIn 1515 dL_law_40 (by rw [c24]; decide) (by rw [c24]; decide) (by rw [c24]; rfl) (by decide) ?_
                                                          refine z_aload_n 1 dL_law_1515 rfl rfl ?_
                                                          refine z_cV_tj (d' := d - 1) (As := []) (rest := []) dL_law_1516 lk_L_172 rfl hf (fun w1 e1 => zc_X8_checksum (by omega) e1) (by omega) rfl rfl (Nat.le_of_ble_eq_true rfl) (fun y166 x167 hf => ?_) (fun y166 k168 hf => ?_)
                                                          · refine z_aload_n 2 dL_law_1519 rfl rfl ?_
                                                            refine z_cV_j (d' := d - 1) (As := []) (rest := [.long x167]) dL_law_1520 lk_L_176 rfl hf (fun w1 e1 => zc_X9_checksum (by omega) e1) (by omega) rfl rfl (Nat.le_of_ble_eq_true rfl) fun y169 hf => ?_
                                                            refine z_lcmp dL_law_1523 ?_
                                                            refine z_if_eq 1529 dL_law_1524 (by decide) hf (fun hf => ?_) (fun hf => ?_)
                                                            · exact Z.sub [0, 1, 2, 3, 4] rfl (hj1529 v4 y169.2 hf)
                                                            · refine z_iconst (0 : Int32) dL_law_1527 (by decide) ?_
                                                              exact z_zret dL_law_1528 rfl (Or.inl rfl) (by cases hf; rfl)
                                                          · exact zx_out rfl (by cases hf; rfl)
                                                        · rw [if_neg c24] at hf
                                                          refine z_tableOut 1529 dL_law_40 (by have q := z_sw_out (x := (x7 &&& (31 : Int32))) (lo := (0 : Int)) (n := 25) (by decide) (by decide) (lt_s (i := 24) (lt_s (i := 23) (lt_s (i := 22) (lt_s (i := 21) (lt_s (i := 20) (lt_s (i := 19) (lt_s (i := 18) (lt_s (i := 17) (lt_s (i := 16) (lt_s (i := 15) (lt_s (i := 14) (lt_s (i := 13) (lt_s (i := 12) (lt_s (i := 11) (lt_s (i := 10) (lt_s (i := 9) (lt_s (i := 8) (lt_s (i := 7) (lt_s (i := 6) (lt_s (i := 5) (lt_s (i := 4) (lt_s (i := 3) (lt_s (i := 2) (lt_s (i := 1) (lt_s (i := 0) lt_0 (fun e => c0 (e.trans (by decide)))) (fun e => c1 (e.trans (by decide)))) (fun e => c2 (e.trans (by decide)))) (fun e => c3 (e.trans (by decide)))) (fun e => c4 (e.trans (by decide)))) (fun e => c5 (e.trans (by decide)))) (fun e => c6 (e.trans (by decide)))) (fun e => c7 (e.trans (by decide)))) (fun e => c8 (e.trans (by decide)))) (fun e => c9 (e.trans (by decide)))) (fun e => c10 (e.trans (by decide)))) (fun e => c11 (e.trans (by decide)))) (fun e => c12 (e.trans (by decide)))) (fun e => c13 (e.trans (by decide)))) (fun e => c14 (e.trans (by decide)))) (fun e => c15 (e.trans (by decide)))) (fun e => c16 (e.trans (by decide)))) (fun e => c17 (e.trans (by decide)))) (fun e => c18 (e.trans (by decide)))) (fun e => c19 (e.trans (by decide)))) (fun e => c20 (e.trans (by decide)))) (fun e => c21 (e.trans (by decide)))) (fun e => c22 (e.trans (by decide)))) (fun e => c23 (e.trans (by decide)))) (fun e => c24 (e.trans (by decide)))); omega) (by decide) ?_
                                                          exact Z.sub [0, 1, 2, 3, 4] rfl (hj1529 v4 h hf)
set_option maxRecDepth 4000 in
theorem zw_L_law {Γ : zG} {N d : Nat} {h0 : zH} {L : Nat} {xs : Nat → Int32} {sb : Nat} (hG : Γ.2.2.2.2 = (sb, L, xs)) (hd : 106 ≤ d) {h : zH} {w : (Int32 ⊕ Nat) × zH} (hf : f_L_law N L xs h = some w) : Z Γ m_L_law d h0 (zoTI w) 0 [(0, .ref sb)] [] h := by
  unfold f_L_law at hf
  refine z_nwO dL_law_0 zc8 wc_L_8 wn_X8 wi_X8 rfl zd8 hf fun y1 hf => ?_
  refine z_dup dL_law_3 rfl ?_
  refine z_cI_v (d' := d - 1) (As := []) (rest := [.ref y1.1]) dL_law_4 lk_L_82 hf (fun w1 e1 => zc_X8_init (by omega) e1) (by omega) rfl rfl (Nat.le_of_ble_eq_true rfl) fun y2 hf => ?_
  refine z_astore_n [(1, .ref y1.1), (0, .ref sb)] dL_law_7 rfl (by decide) rfl ?_
  refine z_nwO dL_law_8 zc9 wc_L_83 wn_X9 wi_X9 rfl zd9 hf fun y3 hf => ?_
  refine z_dup dL_law_11 rfl ?_
  refine z_cI_v (d' := d - 1) (As := []) (rest := [.ref y3.1]) dL_law_12 lk_L_85 hf (fun w1 e1 => zc_X9_init (by omega) e1) (by omega) rfl rfl (Nat.le_of_ble_eq_true rfl) fun y4 hf => ?_
  refine z_astore_n [(2, .ref y3.1), (1, .ref y1.1), (0, .ref sb)] dL_law_15 rfl (by decide) rfl ?_
  refine z_iconst (1 : Int32) dL_law_16 (by decide) ?_
  refine z_nwJ dL_law_17 wa_J hf fun y5 hf => ?_
  refine z_astore_n [(3, .ref y5.1), (2, .ref y3.1), (1, .ref y1.1), (0, .ref sb)] dL_law_19 rfl (by decide) rfl ?_
  refine z_iconst (0 : Int32) dL_law_20 (by decide) ?_
  refine z_istore [(4, .int (0 : Int32)), (3, .ref y5.1), (2, .ref y3.1), (1, .ref y1.1), (0, .ref sb)] dL_law_21 (by decide) rfl ?_
  refine Z.sub [4, 3, 2, 1, 0] rfl (zl_L_law_23 hG hd  N (0 : Int32) y5.2 hf)

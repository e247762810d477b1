set_option maxRecDepth 4000 in
theorem zc_X6_toArray {Γ : zG} {N d : Nat} (hd : 12 ≤ d) {a : Nat} {h : zH} {w : Nat × zH} (hf : f_X6_toArray N a h = some w) : Zm Γ m_X6_toArray d [.ref a] h (zoA w) := by
  unfold f_X6_toArray at hf
  refine z_meth rfl (plainFor_of_name wpl_X6) (by simp [lg_sl, Value.category, zml, m_X6_toArray]) ?_
  refine z_aload_n 0 dX6_toArray_0 rfl rfl ?_
  refine z_getA dX6_toArray_1 zc6 (by decide) wf_X6_13 hf fun x1 hf => ?_
  refine z_iconst (0 : Int32) dX6_toArray_4 (by decide) ?_
  refine z_aload_n 0 dX6_toArray_5 rfl rfl ?_
  refine z_getI dX6_toArray_6 zc6 (by decide) wf_X6_19 hf fun x2 hf => ?_
  refine z_aload_n 0 dX6_toArray_9 rfl rfl ?_
  refine z_getA dX6_toArray_10 zc6 (by decide) wf_X6_13 hf fun x3 hf => ?_
  refine z_alen dX6_toArray_13 hf fun x4 hf => ?_
  refine z_cS_i (d' := d - 1) (As := [.int x2, .int x4]) (rest := [.int (0 : Int32), .ref x1]) dX6_toArray_14 lk_X6_27 hf (fun w1 e1 => zc_J9_min_7cf53 (by omega) e1) (by omega) rfl rfl (Nat.le_of_ble_eq_true rfl) fun y5 hf => ?_
  refine z_cS_i (d' := d - 1) (As := [.int (0 : Int32), .int y5.1]) (rest := [.ref x1]) dX6_toArray_17 lk_X6_7 hf (fun w1 e1 => zc_J9_max_7cf53 (by omega) e1) (by omega) rfl rfl (Nat.le_of_ble_eq_true rfl) fun y6 hf => ?_
  refine z_cS_a (d' := d - 1) (As := [.ref x1, .int y6.1]) (rest := []) dX6_toArray_20 lk_X6_36 hf (fun w1 e1 => zc_J7_copyOf_59c91 (by omega) e1) (by omega) rfl rfl (Nat.le_of_ble_eq_true rfl) fun y7 hf => ?_
  exact z_aret dX6_toArray_23 rfl (Or.inr ⟨_, rfl⟩) (Or.inr ⟨_, rfl⟩) (by cases hf; rfl)
set_option maxRecDepth 4000 in
theorem zc_X0_setRule {Γ : zG} {N d : Nat} (hd : 10 ≤ d) {a : Nat} {p1 : Nat} {h : zH} {w : zH} (hf : f_X0_setRule N a p1 h = some w) : Zm Γ m_X0_setRule d [.ref a, .ref p1] h (zoV w) := by
  unfold f_X0_setRule at hf
  refine z_meth rfl (plainFor_of_name wpl_X0) (by simp [lg_sl, Value.category, zml, m_X0_setRule]) ?_
  refine z_aload_n 0 dX0_setRule_0 rfl rfl ?_
  refine z_aload_n 1 dX0_setRule_1 rfl rfl ?_
  refine z_putB dX0_setRule_2 zc0 (by decide) wf_X0_49 (Or.inl rfl) rfl rfl hf fun h1 hf => ?_
  exact z_vret dX0_setRule_5 rfl (by cases hf; rfl)
set_option maxRecDepth 4000 in
theorem zc_X7_takePrice {Γ : zG} {N d : Nat} (hd : 101 ≤ d) {a : Nat} {h : zH} {w : Int32 × zH} (hf : f_X7_takePrice N a h = some w) : Zm Γ m_X7_takePrice d [.ref a] h (zoI w) := by
  unfold f_X7_takePrice at hf
  refine z_meth rfl (plainFor_of_name wpl_X7) (by simp [lg_sl, Value.category, zml, m_X7_takePrice]) ?_
  refine z_aload_n 0 dX7_takePrice_0 rfl rfl ?_
  refine z_iconst (1 : Int32) dX7_takePrice_1 (by decide) ?_
  refine z_putB dX7_takePrice_2 zc7 (by decide) wf_X7_65 (Or.inl rfl) rfl rfl hf fun h1 hf => ?_
  refine z_aload_n 0 dX7_takePrice_5 rfl rfl ?_
  refine z_cV_v (d' := d - 1) (As := []) (rest := []) dX7_takePrice_6 lk_X7_72 rfl hf (fun w1 e1 => zc_X7_advance (by omega) e1) (by omega) rfl rfl (Nat.le_of_ble_eq_true rfl) fun y2 hf => ?_
  refine z_aload_n 0 dX7_takePrice_9 rfl rfl ?_
  refine z_iconst (0 : Int32) dX7_takePrice_10 (by decide) ?_
  refine z_cV_i (d' := d - 1) (As := [.int (0 : Int32)]) (rest := []) dX7_takePrice_11 lk_X7_189 rfl hf (fun w1 e1 => zc_X7_takeSumN (by omega) e1) (by omega) rfl rfl (Nat.le_of_ble_eq_true rfl) fun y3 hf => ?_
  refine z_if_ne 19 dX7_takePrice_14 (by decide) hf (fun hf => ?_) (fun hf => ?_)
  · refine z_iconst (0 : Int32) dX7_takePrice_17 (by decide) ?_
    exact z_zret dX7_takePrice_18 rfl (Or.inl rfl) (by cases hf; rfl)
  · refine z_aload_n 0 dX7_takePrice_19 rfl rfl ?_
    refine z_getA dX7_takePrice_20 zc7 (by decide) wf_X7_33 hf fun x4 hf => ?_
    refine z_nwO dX7_takePrice_23 zc5 wc_X7_192 wn_X5 wi_X5 rfl zd5 hf fun y5 hf => ?_
    refine z_dup dX7_takePrice_26 rfl ?_
    refine z_aload_n 0 dX7_takePrice_27 rfl rfl ?_
    refine z_getA dX7_takePrice_28 zc7 (by decide) wf_X7_24 hf fun x6 hf => ?_
    refine z_cV_a (d' := d - 1) (As := []) (rest := [.ref y5.1, .ref y5.1, .ref x4]) dX7_takePrice_31 lk_X7_194 rfl hf (fun w1 e1 => zc_X6_toArray (by omega) e1) (by omega) rfl rfl (Nat.le_of_ble_eq_true rfl) fun y7 hf => ?_
    refine z_cI_v (d' := d - 1) (As := [.ref y7.1]) (rest := [.ref y5.1, .ref x4]) dX7_takePrice_34 lk_X7_198 hf (fun w1 e1 => zc_X5_init (by omega) e1) (by omega) rfl rfl (Nat.le_of_ble_eq_true rfl) fun y8 hf => ?_
    refine z_cV_v (d' := d - 1) (As := [.ref y5.1]) (rest := []) dX7_takePrice_37 lk_X7_201 rfl hf (fun w1 e1 => zc_X0_setRule (by omega) e1) (by omega) rfl rfl (Nat.le_of_ble_eq_true rfl) fun y9 hf => ?_
    refine z_iconst (1 : Int32) dX7_takePrice_40 (by decide) ?_
    exact z_zret dX7_takePrice_41 rfl (Or.inr rfl) (by cases hf; rfl)
set_option maxRecDepth 4000 in
theorem zj_X7_takeStatement_131 {Γ : zG} {N d : Nat} {h0 : zH} (hd : 102 ≤ d) {v0 : Nat}  {h : zH} {w : Int32 × zH} (hf : f_X7_takeStatement_j131 N v0  h = some w) : Z Γ m_X7_takeStatement d h0 (zoI w) 131 [(0, .ref v0)] [] h := by
  unfold f_X7_takeStatement_j131 at hf
  refine z_aload_n 0 dX7_takeStatement_131 rfl rfl ?_
  refine z_bipush (-2 : Int32) dX7_takeStatement_132 (by decide) ?_
  refine z_aload_n 0 dX7_takeStatement_134 rfl rfl ?_
  refine z_getI dX7_takeStatement_135 zc7 (by decide) wf_X7_85 hf fun x5 hf => ?_
  refine z_cV_i (d' := d - 1) (As := [.int (-2 : Int32), .int x5]) (rest := []) dX7_takeStatement_138 lk_X7_112 rfl hf (fun w1 e1 => zc_X7_fail (by omega) e1) (by omega) rfl rfl (Nat.le_of_ble_eq_true rfl) fun y6 hf => ?_
  obtain ⟨x7, hz, hf⟩ := Option.bind_eq_some_iff.mp hf
  obtain ⟨hb, rfl⟩ := zB_of hz
  exact z_zret dX7_takeStatement_141 rfl hb (by cases hf; rfl)
set_option maxRecDepth 4000 in
theorem zc_X7_takeStatement {Γ : zG} {N d : Nat} (hd : 102 ≤ d) {a : Nat} {h : zH} {w : Int32 × zH} (hf : f_X7_takeStatement N a h = some w) : Zm Γ m_X7_takeStatement d [.ref a] h (zoI w) := by
  unfold f_X7_takeStatement at hf
  refine z_meth rfl (plainFor_of_name wpl_X7) (by simp [lg_sl, Value.category, zml, m_X7_takeStatement]) ?_
  refine z_aload_n 0 dX7_takeStatement_0 rfl rfl ?_
  refine z_ldcS7 (i := 1) (by decide) rfl rfl dX7_takeStatement_1 ?_
  refine z_cV_i (d' := d - 1) (As := [.ref (zKa Γ 1)]) (rest := []) dX7_takeStatement_3 lk_X7_128 rfl hf (fun w1 e1 => zc_X7_isWord (by omega) e1) (by omega) rfl rfl (Nat.le_of_ble_eq_true rfl) fun y1 hf => ?_
  refine z_if_eq 31 dX7_takeStatement_6 (by decide) hf (fun hf => ?_) (fun hf => ?_)
  · refine z_aload_n 0 dX7_takeStatement_31 rfl rfl ?_
    refine z_ldcS7 (i := 2) (by decide) rfl rfl dX7_takeStatement_32 ?_
    refine z_cV_i (d' := d - 1) (As := [.ref (zKa Γ 2)]) (rest := []) dX7_takeStatement_34 lk_X7_128 rfl hf (fun w1 e1 => zc_X7_isWord (by omega) e1) (by omega) rfl rfl (Nat.le_of_ble_eq_true rfl) fun y2 hf => ?_
    refine z_if_eq 62 dX7_takeStatement_37 (by decide) hf (fun hf => ?_) (fun hf => ?_)
    · refine z_aload_n 0 dX7_takeStatement_62 rfl rfl ?_
      refine z_ldcS7 (i := 3) (by decide) rfl rfl dX7_takeStatement_63 ?_
      refine z_cV_i (d' := d - 1) (As := [.ref (zKa Γ 3)]) (rest := []) dX7_takeStatement_65 lk_X7_128 rfl hf (fun w1 e1 => zc_X7_isWord (by omega) e1) (by omega) rfl rfl (Nat.le_of_ble_eq_true rfl) fun y3 hf => ?_
      refine z_if_eq 93 dX7_takeStatement_68 (by decide) hf (fun hf => ?_) (fun hf => ?_)
      · refine z_aload_n 0 dX7_takeStatement_93 rfl rfl ?_
        refine z_ldcS7 (i := 4) (by decide) rfl rfl dX7_takeStatement_94 ?_
        refine z_cV_i (d' := d - 1) (As := [.ref (zKa Γ 4)]) (rest := []) dX7_takeStatement_96 lk_X7_128 rfl hf (fun w1 e1 => zc_X7_isWord (by omega) e1) (by omega) rfl rfl (Nat.le_of_ble_eq_true rfl) fun y4 hf => ?_
        refine z_if_eq 131 dX7_takeStatement_99 (by decide) hf (fun hf => ?_) (fun hf => ?_)
        · exact Z.sub [0] rfl (zj_X7_takeStatement_131 hd hf)
        · refine z_aload_n 0 dX7_takeStatement_102 rfl rfl ?_
          refine z_getI dX7_takeStatement_103 zc7 (by decide) wf_X7_65 hf fun x8 hf => ?_
          refine z_if_ne 131 dX7_takeStatement_106 (by decide) hf (fun hf => ?_) (fun hf => ?_)
          · refine z_aload_n 0 dX7_takeStatement_109 rfl rfl ?_
            refine z_cV_i (d' := d - 1) (As := []) (rest := []) dX7_takeStatement_110 lk_X7_155 rfl hf (fun w1 e1 => zc_X7_takePrice (by omega) e1) (by omega) rfl rfl (Nat.le_of_ble_eq_true rfl) fun y9 hf => ?_
            refine z_if_eq 129 dX7_takeStatement_113 (by decide) hf (fun hf => ?_) (fun hf => ?_)
            · refine z_iconst (0 : Int32) dX7_takeStatement_129 (by decide) ?_
              exact z_zret dX7_takeStatement_130 rfl (Or.inl rfl) (by cases hf; rfl)
            · refine z_aload_n 0 dX7_takeStatement_116 rfl rfl ?_
              refine z_bipush (59 : Int32) dX7_takeStatement_117 (by decide) ?_
              refine z_cV_i (d' := d - 1) (As := [.int (59 : Int32)]) (rest := []) dX7_takeStatement_119 lk_X7_135 rfl hf (fun w1 e1 => zc_X7_takeSign (by omega) e1) (by omega) rfl rfl (Nat.le_of_ble_eq_true rfl) fun y10 hf => ?_
              refine z_if_eq 129 dX7_takeStatement_122 (by decide) hf (fun hf => ?_) (fun hf => ?_)
              · refine z_iconst (0 : Int32) dX7_takeStatement_129 (by decide) ?_
                exact z_zret dX7_takeStatement_130 rfl (Or.inl rfl) (by cases hf; rfl)
              · refine z_iconst (1 : Int32) dX7_takeStatement_125 (by decide) ?_
                refine z_goto 130 dX7_takeStatement_126 (by decide) ?_
                exact z_zret dX7_takeStatement_130 rfl (Or.inr rfl) (by cases hf; rfl)
          · exact Z.sub [0] rfl (zj_X7_takeStatement_131 hd hf)
      · refine z_aload_n 0 dX7_takeStatement_71 rfl rfl ?_
        refine z_cV_i (d' := d - 1) (As := []) (rest := []) dX7_takeStatement_72 lk_X7_150 rfl hf (fun w1 e1 => zc_X7_takeLot (by omega) e1) (by omega) rfl rfl (Nat.le_of_ble_eq_true rfl) fun y11 hf => ?_
        refine z_if_eq 91 dX7_takeStatement_75 (by decide) hf (fun hf => ?_) (fun hf => ?_)
        · refine z_iconst (0 : Int32) dX7_takeStatement_91 (by decide) ?_
          exact z_zret dX7_takeStatement_92 rfl (Or.inl rfl) (by cases hf; rfl)
        · refine z_aload_n 0 dX7_takeStatement_78 rfl rfl ?_
          refine z_bipush (59 : Int32) dX7_takeStatement_79 (by decide) ?_
          refine z_cV_i (d' := d - 1) (As := [.int (59 : Int32)]) (rest := []) dX7_takeStatement_81 lk_X7_135 rfl hf (fun w1 e1 => zc_X7_takeSign (by omega) e1) (by omega) rfl rfl (Nat.le_of_ble_eq_true rfl) fun y12 hf => ?_
          refine z_if_eq 91 dX7_takeStatement_84 (by decide) hf (fun hf => ?_) (fun hf => ?_)
          · refine z_iconst (0 : Int32) dX7_takeStatement_91 (by decide) ?_
            exact z_zret dX7_takeStatement_92 rfl (Or.inl rfl) (by cases hf; rfl)
          · refine z_iconst (1 : Int32) dX7_takeStatement_87 (by decide) ?_
            refine z_goto 92 dX7_takeStatement_88 (by decide) ?_
            exact z_zret dX7_takeStatement_92 rfl (Or.inr rfl) (by cases hf; rfl)
    · refine z_aload_n 0 dX7_takeStatement_40 rfl rfl ?_
      refine z_cV_i (d' := d - 1) (As := []) (rest := []) dX7_takeStatement_41 lk_X7_145 rfl hf (fun w1 e1 => zc_X7_takeCard (by omega) e1) (by omega) rfl rfl (Nat.le_of_ble_eq_true rfl) fun y13 hf => ?_
      refine z_if_eq 60 dX7_takeStatement_44 (by decide) hf (fun hf => ?_) (fun hf => ?_)
      · refine z_iconst (0 : Int32) dX7_takeStatement_60 (by decide) ?_
        exact z_zret dX7_takeStatement_61 rfl (Or.inl rfl) (by cases hf; rfl)
      · refine z_aload_n 0 dX7_takeStatement_47 rfl rfl ?_
        refine z_bipush (59 : Int32) dX7_takeStatement_48 (by decide) ?_
        refine z_cV_i (d' := d - 1) (As := [.int (59 : Int32)]) (rest := []) dX7_takeStatement_50 lk_X7_135 rfl hf (fun w1 e1 => zc_X7_takeSign (by omega) e1) (by omega) rfl rfl (Nat.le_of_ble_eq_true rfl) fun y14 hf => ?_
        refine z_if_eq 60 dX7_takeStatement_53 (by decide) hf (fun hf => ?_) (fun hf => ?_)
        · refine z_iconst (0 : Int32) dX7_takeStatement_60 (by decide) ?_
          exact z_zret dX7_takeStatement_61 rfl (Or.inl rfl) (by cases hf; rfl)
        · refine z_iconst (1 : Int32) dX7_takeStatement_56 (by decide) ?_
          refine z_goto 61 dX7_takeStatement_57 (by decide) ?_
          exact z_zret dX7_takeStatement_61 rfl (Or.inr rfl) (by cases hf; rfl)
  · refine z_aload_n 0 dX7_takeStatement_9 rfl rfl ?_
    refine z_cV_i (d' := d - 1) (As := []) (rest := []) dX7_takeStatement_10 lk_X7_140 rfl hf (fun w1 e1 => zc_X7_takePlayer (by omega) e1) (by omega) rfl rfl (Nat.le_of_ble_eq_true rfl) fun y15 hf => ?_
    refine z_if_eq 29 dX7_takeStatement_13 (by decide) hf (fun hf => ?_) (fun hf => ?_)
    · refine z_iconst (0 : Int32) dX7_takeStatement_29 (by decide) ?_
      exact z_zret dX7_takeStatement_30 rfl (Or.inl rfl) (by cases hf; rfl)
    · refine z_aload_n 0 dX7_takeStatement_16 rfl rfl ?_
      refine z_bipush (59 : Int32) dX7_takeStatement_17 (by decide) ?_
      refine z_cV_i (d' := d - 1) (As := [.int (59 : Int32)]) (rest := []) dX7_takeStatement_19 lk_X7_135 rfl hf (fun w1 e1 => zc_X7_takeSign (by omega) e1) (by omega) rfl rfl (Nat.le_of_ble_eq_true rfl) fun y16 hf => ?_
      refine z_if_eq 29 dX7_takeStatement_22 (by decide) hf (fun hf => ?_) (fun hf => ?_)
      · refine z_iconst (0 : Int32) dX7_takeStatement_29 (by decide) ?_
        exact z_zret dX7_takeStatement_30 rfl (Or.inl rfl) (by cases hf; rfl)
      · refine z_iconst (1 : Int32) dX7_takeStatement_25 (by decide) ?_
        refine z_goto 30 dX7_takeStatement_26 (by decide) ?_
        exact z_zret dX7_takeStatement_30 rfl (Or.inr rfl) (by cases hf; rfl)
set_option maxRecDepth 4000 in
theorem zl_X7_read_68 {Γ : zG} {N d : Nat} {h0 : zH} (hd : 103 ≤ d) {v0 : Nat}  {w : Int32 × zH}   : ∀ (n : Nat) (v2 : Int32) (h : zH), f_X7_read_l68 N v0 n v2 h = some w → Z Γ m_X7_read d h0 (zoI w) 68 [(0, .ref v0), (2, .int v2)] [] h := by
  intro n
  induction n with
  | zero => intro v2 h hf; cases hf
  | succ n ih =>
    intro v2 h hf
    rw [f_X7_read_l68] at hf
    refine z_iload_n 1 dX7_read_68 rfl rfl ?_
    refine z_sipush (700 : Int32) dX7_read_69 (by decide) ?_
    refine z_icmp_ge 100 dX7_read_72 (by decide) hf (fun hf => ?_) (fun hf => ?_)
    · refine z_aload_n 0 dX7_read_100 rfl rfl ?_
      refine z_getI dX7_read_101 zc7 (by decide) wf_X7_69 hf fun x17 hf => ?_
      exact z_iret dX7_read_104 rfl (by cases hf; rfl)
    · refine z_aload_n 0 dX7_read_75 rfl rfl ?_
      refine z_getI dX7_read_76 zc7 (by decide) wf_X7_69 hf fun x18 hf => ?_
      refine z_if_ne 100 dX7_read_79 (by decide) hf (fun hf => ?_) (fun hf => ?_)
      · refine z_aload_n 0 dX7_read_82 rfl rfl ?_
        refine z_getI dX7_read_83 zc7 (by decide) wf_X7_79 hf fun x20 hf => ?_
        refine z_if_eq 100 dX7_read_86 (by decide) hf (fun hf => ?_) (fun hf => ?_)
        · refine z_aload_n 0 dX7_read_100 rfl rfl ?_
          refine z_getI dX7_read_101 zc7 (by decide) wf_X7_69 hf fun x21 hf => ?_
          exact z_iret dX7_read_104 rfl (by cases hf; rfl)
        · refine z_aload_n 0 dX7_read_89 rfl rfl ?_
          refine z_cV_i (d' := d - 1) (As := []) (rest := []) dX7_read_90 lk_X7_82 rfl hf (fun w1 e1 => zc_X7_takeStatement (by omega) e1) (by omega) rfl rfl (Nat.le_of_ble_eq_true rfl) fun y22 hf => ?_
          refine z_pop dX7_read_93 rfl ?_
          refine z_iinc (v2 + (1 : Int32)) 1 [(2, .int (v2 + (1 : Int32))), (0, .ref v0)] dX7_read_94 rfl rfl (by decide) rfl ?_
          refine z_goto 68 dX7_read_97 (by decide) ?_
          exact Z.sub [1, 0] rfl (ih (v2 + (1 : Int32)) y22.2 hf)
      · refine z_aload_n 0 dX7_read_100 rfl rfl ?_
        refine z_getI dX7_read_101 zc7 (by decide) wf_X7_69 hf fun x19 hf => ?_
        exact z_iret dX7_read_104 rfl (by cases hf; rfl)
set_option maxRecDepth 4000 in
theorem zc_X7_read {Γ : zG} {N d : Nat} (hd : 103 ≤ d) {a : Nat} {p1 : Int32} {h : zH} {w : Int32 × zH} (hf : f_X7_read N a p1 h = some w) : Zm Γ m_X7_read d [.ref a, .int p1] h (zoI w) := by
  unfold f_X7_read at hf
  refine z_meth rfl (plainFor_of_name wpl_X7) (by simp [lg_sl, Value.category, zml, m_X7_read]) ?_
  refine z_aload_n 0 dX7_read_0 rfl rfl ?_
  refine z_getA dX7_read_1 zc7 (by decide) wf_X7_33 hf fun x1 hf => ?_
  refine z_cV_v (d' := d - 1) (As := []) (rest := []) dX7_read_4 lk_X7_44 rfl hf (fun w1 e1 => zc_X0_start (by omega) e1) (by omega) rfl rfl (Nat.le_of_ble_eq_true rfl) fun y2 hf => ?_
  refine z_aload_n 0 dX7_read_7 rfl rfl ?_
  refine z_iconst (0 : Int32) dX7_read_8 (by decide) ?_
  refine z_iload_n 1 dX7_read_9 rfl rfl ?_
  refine z_aload_n 0 dX7_read_10 rfl rfl ?_
  refine z_getI dX7_read_11 zc7 (by decide) wf_X7_37 hf fun x3 hf => ?_
  refine z_cS_i (d' := d - 1) (As := [.int p1, .int x3]) (rest := [.int (0 : Int32), .ref a]) dX7_read_14 lk_X7_47 hf (fun w1 e1 => zc_J9_min_7cf53 (by omega) e1) (by omega) rfl rfl (Nat.le_of_ble_eq_true rfl) fun y4 hf => ?_
  refine z_cS_i (d' := d - 1) (As := [.int (0 : Int32), .int y4.1]) (rest := [.ref a]) dX7_read_17 lk_X7_53 hf (fun w1 e1 => zc_J9_max_7cf53 (by omega) e1) (by omega) rfl rfl (Nat.le_of_ble_eq_true rfl) fun y5 hf => ?_
  refine z_putB dX7_read_20 zc7 (by decide) wf_X7_56 (Or.inl rfl) rfl rfl hf fun h6 hf => ?_
  refine z_aload_n 0 dX7_read_23 rfl rfl ?_
  refine z_iconst (0 : Int32) dX7_read_24 (by decide) ?_
  refine z_putB dX7_read_25 zc7 (by decide) wf_X7_37 (Or.inl rfl) rfl rfl hf fun h7 hf => ?_
  refine z_aload_n 0 dX7_read_28 rfl rfl ?_
  refine z_iconst (0 : Int32) dX7_read_29 (by decide) ?_
  refine z_putB dX7_read_30 zc7 (by decide) wf_X7_59 (Or.inl rfl) rfl rfl hf fun h8 hf => ?_
  refine z_aload_n 0 dX7_read_33 rfl rfl ?_
  refine z_getA dX7_read_34 zc7 (by decide) wf_X7_24 hf fun x9 hf => ?_
  refine z_cV_v (d' := d - 1) (As := []) (rest := []) dX7_read_37 lk_X7_62 rfl hf (fun w1 e1 => zc_X6_clear (by omega) e1) (by omega) rfl rfl (Nat.le_of_ble_eq_true rfl) fun y10 hf => ?_
  refine z_aload_n 0 dX7_read_40 rfl rfl ?_
  refine z_iconst (0 : Int32) dX7_read_41 (by decide) ?_
  refine z_putB dX7_read_42 zc7 (by decide) wf_X7_65 (Or.inl rfl) rfl rfl hf fun h11 hf => ?_
  refine z_aload_n 0 dX7_read_45 rfl rfl ?_
  refine z_iconst (0 : Int32) dX7_read_46 (by decide) ?_
  refine z_putB dX7_read_47 zc7 (by decide) wf_X7_69 (Or.inl rfl) rfl rfl hf fun h12 hf => ?_
  refine z_aload_n 0 dX7_read_50 rfl rfl ?_
  refine z_iconst (-1 : Int32) dX7_read_51 (by decide) ?_
  refine z_putB dX7_read_52 zc7 (by decide) wf_X7_41 (Or.inl rfl) rfl rfl hf fun h13 hf => ?_
  refine z_aload_n 0 dX7_read_55 rfl rfl ?_
  refine z_cV_v (d' := d - 1) (As := []) (rest := []) dX7_read_56 lk_X7_72 rfl hf (fun w1 e1 => zc_X7_advance (by omega) e1) (by omega) rfl rfl (Nat.le_of_ble_eq_true rfl) fun y14 hf => ?_
  refine z_aload_n 0 dX7_read_59 rfl rfl ?_
  refine z_cV_i (d' := d - 1) (As := []) (rest := []) dX7_read_60 lk_X7_75 rfl hf (fun w1 e1 => zc_X7_takeGroup (by omega) e1) (by omega) rfl rfl (Nat.le_of_ble_eq_true rfl) fun y15 hf => ?_
  refine z_if_eq 100 dX7_read_63 (by decide) hf (fun hf => ?_) (fun hf => ?_)
  · refine z_aload_n 0 dX7_read_100 rfl rfl ?_
    refine z_getI dX7_read_101 zc7 (by decide) wf_X7_69 hf fun x16 hf => ?_
    exact z_iret dX7_read_104 rfl (by cases hf; rfl)
  · refine z_iconst (0 : Int32) dX7_read_66 (by decide) ?_
    refine z_istore_n [(2, .int (0 : Int32)), (0, .ref a), (1, .int p1)] dX7_read_67 rfl (by decide) rfl ?_
    refine Z.sub [1, 0] rfl (zl_X7_read_68 hd  N (0 : Int32) y15.2 hf)
set_option maxRecDepth 4000 in
theorem zc_X7_errorPlace {Γ : zG} {N d : Nat} (hd : 10 ≤ d) {a : Nat} {h : zH} {w : Int32 × zH} (hf : f_X7_errorPlace N a h = some w) : Zm Γ m_X7_errorPlace d [.ref a] h (zoI w) := by
  unfold f_X7_errorPlace at hf
  refine z_meth rfl (plainFor_of_name wpl_X7) (by simp [lg_sl, Value.category, zml, m_X7_errorPlace]) ?_
  refine z_aload_n 0 dX7_errorPlace_0 rfl rfl ?_
  refine z_getI dX7_errorPlace_1 zc7 (by decide) wf_X7_41 hf fun x1 hf => ?_
  exact z_iret dX7_errorPlace_4 rfl (by cases hf; rfl)
set_option maxRecDepth 4000 in
theorem zc_X7_result {Γ : zG} {N d : Nat} (hd : 10 ≤ d) {a : Nat} {h : zH} {w : Nat × zH} (hf : f_X7_result N a h = some w) : Zm Γ m_X7_result d [.ref a] h (zoA w) := by
  unfold f_X7_result at hf
  refine z_meth rfl (plainFor_of_name wpl_X7) (by simp [lg_sl, Value.category, zml, m_X7_result]) ?_
  refine z_aload_n 0 dX7_result_0 rfl rfl ?_
  refine z_getA dX7_result_1 zc7 (by decide) wf_X7_33 hf fun x1 hf => ?_
  exact z_aret dX7_result_4 rfl (Or.inl ⟨_, rfl⟩) (Or.inr ⟨_, rfl⟩) (by cases hf; rfl)
set_option maxRecDepth 4000 in
theorem zc_X8_load {Γ : zG} {N d : Nat} (hd : 104 ≤ d) {a : Nat} {p1 : Int32} {h : zH} {w : (Int32 ⊕ Nat) × zH} (hf : f_X8_load N a p1 h = some w) : Zm Γ m_X8_load d [.ref a, .int p1] h (zoTI w) := by
  unfold f_X8_load at hf
  refine z_meth rfl (plainFor_of_name wpl_X8) (by simp [lg_sl, Value.category, zml, m_X8_load]) ?_
  refine z_iload_n 1 dX8_load_0 rfl rfl ?_
  refine z_if_lt 15 dX8_load_1 (by decide) hf (fun hf => ?_) (fun hf => ?_)
  · exact z_throw 1 (by decide) dX8_load_15 dX8_load_18 dX8_load_19 dX8_load_22 wc_X8_62 wi_x1 wx_X8_64a wx_X8_64b (by omega) rfl (Nat.le_of_ble_eq_true rfl) (by cases hf; rfl)
  · refine z_iload_n 1 dX8_load_4 rfl rfl ?_
    refine z_aload_n 0 dX8_load_5 rfl rfl ?_
    refine z_getA dX8_load_6 zc8 (by decide) wf_X8_21 hf fun x1 hf => ?_
    refine z_cV_i (d' := d - 1) (As := []) (rest := [.int p1]) dX8_load_9 lk_X8_58 rfl hf (fun w1 e1 => zc_X7_textLength (by omega) e1) (by omega) rfl rfl (Nat.le_of_ble_eq_true rfl) fun y2 hf => ?_
    refine z_icmp_le 23 dX8_load_12 (by decide) hf (fun hf => ?_) (fun hf => ?_)
    · refine z_aload_n 0 dX8_load_23 rfl rfl ?_
      refine z_getA dX8_load_24 zc8 (by decide) wf_X8_21 hf fun x3 hf => ?_
      refine z_iload_n 1 dX8_load_27 rfl rfl ?_
      refine z_cV_i (d' := d - 1) (As := [.int p1]) (rest := []) dX8_load_28 lk_X8_65 rfl hf (fun w1 e1 => zc_X7_read (by omega) e1) (by omega) rfl rfl (Nat.le_of_ble_eq_true rfl) fun y4 hf => ?_
      refine z_istore_n [(2, .int y4.1), (0, .ref a), (1, .int p1)] dX8_load_31 rfl (by decide) rfl ?_
      refine z_aload_n 1 dX8_load_32 rfl rfl ?_
      refine z_aload_n 1 dX8_load_33 rfl rfl ?_
      refine z_getA dX8_load_34 zc8 (by decide) wf_X8_21 hf fun x5 hf => ?_
      refine z_cV_i (d' := d - 1) (As := []) (rest := [.ref a]) dX8_load_37 lk_X8_69 rfl hf (fun w1 e1 => zc_X7_errorPlace (by omega) e1) (by omega) rfl rfl (Nat.le_of_ble_eq_true rfl) fun y6 hf => ?_
      refine z_putB dX8_load_40 zc8 (by decide) wf_X8_46 (Or.inl rfl) rfl rfl hf fun h7 hf => ?_
      refine z_iload_n 0 dX8_load_43 rfl rfl ?_
      refine z_if_eq 49 dX8_load_44 (by decide) hf (fun hf => ?_) (fun hf => ?_)
      · refine z_aload_n 1 dX8_load_49 rfl rfl ?_
        refine z_getA dX8_load_50 zc8 (by decide) wf_X8_35 hf fun x8 hf => ?_
        refine z_aload_n 1 dX8_load_53 rfl rfl ?_
        refine z_getA dX8_load_54 zc8 (by decide) wf_X8_28 hf fun x9 hf => ?_
        refine z_cV_v (d' := d - 1) (As := [.ref x9]) (rest := []) dX8_load_57 lk_X8_72 rfl hf (fun w1 e1 => zc_X4_remember (by omega) e1) (by omega) rfl rfl (Nat.le_of_ble_eq_true rfl) fun y10 hf => ?_
        refine z_aload_n 1 dX8_load_60 rfl rfl ?_
        refine z_getA dX8_load_61 zc8 (by decide) wf_X8_28 hf fun x11 hf => ?_
        refine z_aload_n 1 dX8_load_64 rfl rfl ?_
        refine z_getA dX8_load_65 zc8 (by decide) wf_X8_21 hf fun x12 hf => ?_
        refine z_cV_a (d' := d - 1) (As := []) (rest := [.ref x11]) dX8_load_68 lk_X8_76 rfl hf (fun w1 e1 => zc_X7_result (by omega) e1) (by omega) rfl rfl (Nat.le_of_ble_eq_true rfl) fun y13 hf => ?_
        refine z_cV_v (d' := d - 1) (As := [.ref y13.1]) (rest := []) dX8_load_71 lk_X8_80 rfl hf (fun w1 e1 => zc_X0_copyFrom (by omega) e1) (by omega) rfl rfl (Nat.le_of_ble_eq_true rfl) fun y14 hf => ?_
        refine z_aload_n 1 dX8_load_74 rfl rfl ?_
        refine z_getA dX8_load_75 zc8 (by decide) wf_X8_28 hf fun x15 hf => ?_
        refine z_getI dX8_load_78 zc0 (by decide) wf_X8_83 hf fun x16 hf => ?_
        exact z_iret dX8_load_81 rfl (by cases hf; rfl)
      · refine z_iload_n 0 dX8_load_47 rfl rfl ?_
        exact z_iret dX8_load_48 rfl (by cases hf; rfl)
    · exact z_throw 1 (by decide) dX8_load_15 dX8_load_18 dX8_load_19 dX8_load_22 wc_X8_62 wi_x1 wx_X8_64a wx_X8_64b (by omega) rfl (Nat.le_of_ble_eq_true rfl) (by cases hf; rfl)
set_option maxRecDepth 4000 in
theorem zc_L_load {Γ : zG} {N d : Nat} (hd : 105 ≤ d) {p1 : Nat} {p2 : Int32} {h : zH} {w : Int32 × zH} (hf : f_L_load N p1 p2 h = some w) : Zm Γ m_L_load d [.ref p1, .int p2] h (zoI w) := by
  unfold f_L_load at hf
  refine z_methH (by decide) (by decide +kernel) (by simp [lg_sl, Value.category, zml, m_L_load]) ?_
  refine z_aload_n 0 dL_load_0 rfl rfl ?_
  refine z_iload_n 1 dL_load_1 rfl rfl ?_
  refine z_cV_ti (d' := d - 1) (As := [.int p2]) (rest := []) dL_load_2 lk_L_37 rfl hf (fun w1 e1 => zc_X8_load (by omega) e1) (by omega) rfl rfl (Nat.le_of_ble_eq_true rfl) (fun y1 x2 hf => ?_) (fun y1 k3 hf => ?_)
  · exact z_iret dL_load_5 rfl (by cases hf; rfl)
  · by_cases e0 : k3 = 1
    · rw [if_pos e0] at hf
      subst e0
      refine zx_catch (by decide) [] (0, 5, 6, 40) [] rfl (fun z hz => absurd hz List.not_mem_nil) (by decide) (by decide) wc_L_40 wct_1 fun q4 => ?_
      refine z_astore_n [(2, .ref q4), (0, .ref p1), (1, .int p2)] dL_load_6 rfl (by decide) rfl ?_
      refine z_ldc (-2000000098 : Int32) dL_load_7 wk_L_42 ?_
      exact z_iret dL_load_9 rfl (by cases hf; rfl)
    · rw [if_neg e0] at hf
      cases hf
set_option maxRecDepth 4000 in
theorem zj_L_loadText_16 {Γ : zG} {N d : Nat} {h0 : zH} (hd : 106 ≤ d) {v0 : Nat} {v1 : Nat} {v2 : Int32}  {h : zH} {w : Int32 × zH} (hf : f_L_loadText_j16 N v0 v1 v2  h = some w) : Z Γ m_L_loadText d h0 (zoI w) 16 [(0, .ref v0), (1, .ref v1), (2, .int v2)] [] h := by
  unfold f_L_loadText_j16 at hf
  refine z_aload_n 1 dL_loadText_16 rfl rfl ?_
  refine z_iconst (0 : Int32) dL_loadText_17 (by decide) ?_
  refine z_iconst (0 : Int32) dL_loadText_18 (by decide) ?_
  refine z_iastore dL_loadText_19 hf fun h3 hf => ?_
  refine z_aload_n 0 dL_loadText_20 rfl rfl ?_
  refine z_iload_n 2 dL_loadText_21 rfl rfl ?_
  refine z_cW_i (d' := d - 1) (As := [.ref v0, .int v2]) (rest := []) dL_loadText_22 lk_L_19 hf (fun w1 e1 => zc_L_load (by omega) e1) (by omega) rfl rfl (Nat.le_of_ble_eq_true rfl) fun y4 hf => ?_
  exact z_iret dL_loadText_25 rfl (by cases hf; rfl)
set_option maxRecDepth 4000 in
theorem zc_L_loadText {Γ : zG} {N d : Nat} (hd : 106 ≤ d) {p1 : Nat} {p2 : Nat} {h : zH} {w : Int32 × zH} (hf : f_L_loadText N p1 p2 h = some w) : Zm Γ m_L_loadText d [.ref p1, .ref p2] h (zoI w) := by
  unfold f_L_loadText at hf
  refine z_meth rfl (plainFor_of_name wpl_L) (by simp [lg_sl, Value.category, zml, m_L_loadText]) ?_
  refine z_aload_n 1 dL_loadText_0 rfl rfl ?_
  refine z_iconst (0 : Int32) dL_loadText_1 (by decide) ?_
  refine z_iaload dL_loadText_2 hf fun x1 hf => ?_
  refine z_istore_n [(2, .int x1), (0, .ref p1), (1, .ref p2)] dL_loadText_3 rfl (by decide) rfl ?_
  refine z_iload_n 0 dL_loadText_4 rfl rfl ?_
  refine z_bipush (20 : Int32) dL_loadText_5 (by decide) ?_
  refine z_irem dL_loadText_7 hf fun x2 hf => ?_
  refine z_if_le 16 dL_loadText_8 (by decide) hf (fun hf => ?_) (fun hf => ?_)
  · exact Z.sub [1, 2, 0] rfl (zj_L_loadText_16 hd hf)
  · refine z_aload_n 1 dL_loadText_11 rfl rfl ?_
    refine z_aload_n 2 dL_loadText_12 rfl rfl ?_
    refine z_cS_v (d' := d - 1) (As := [.ref p1, .ref p2]) (rest := []) dL_loadText_13 lk_L_7 hf (fun w1 e1 => zc_L_flush (by omega) e1) (by omega) rfl rfl (Nat.le_of_ble_eq_true rfl) fun y5 hf => ?_
    exact Z.sub [1, 2, 0] rfl (zj_L_loadText_16 hd hf)
set_option maxRecDepth 4000 in
theorem zl_L_randomSale_153 {Γ : zG} {N d : Nat} {h0 : zH} (hd : 107 ≤ d) {v0 : Nat} {v1 : Nat} {v2 : Nat} {v3 : Int32} {v4 : Nat} {v5 : Int32} {v6 : Int32} {k1 : zH → Option (Option Nat × zH)} {w : Option Nat × zH}  (hk1 : ∀ (h : zH), k1 h = some w → Z Γ m_L_randomSale d h0 (zoN w) 261 [(0, .ref v0), (1, .ref v1), (2, .ref v2), (3, .int v3), (4, .ref v4), (5, .int v5), (6, .int v6)] [] h) : ∀ (n : Nat) (v7 : Int32) (h : zH), f_L_randomSale_l153 N (zKa Γ) v0 v1 v2 v3 v4 v5 v6 k1 n v7 h = some w → Z Γ m_L_randomSale d h0 (zoN w) 153 [(0, .ref v0), (1, .ref v1), (2, .ref v2), (3, .int v3), (4, .ref v4), (5, .int v5), (6, .int v6), (7, .int v7)] [] h := by
  intro n
  induction n with
  | zero => intro v7 h hf; cases hf
  | succ n ih =>
    intro v7 h hf
    rw [f_L_randomSale_l153] at hf
    refine z_iload 7 dL_randomSale_153 rfl ?_
    refine z_if_le 261 dL_randomSale_155 (by decide) hf (fun hf => ?_) (fun hf => ?_)
    · exact Z.sub [0, 1, 2, 3, 4, 5, 6] rfl (hk1 h hf)
    · refine z_nwO dL_randomSale_158 zc9 wc_L_129 wn_X9 wi_X9 rfl zd9 hf fun y29 hf => ?_
      refine z_dup dL_randomSale_161 rfl ?_
      refine z_iload 6 dL_randomSale_162 rfl ?_
      refine z_aload_n 2 dL_randomSale_164 rfl rfl ?_
      refine z_aload 4 dL_randomSale_165 rfl ?_
      refine z_getI dL_randomSale_167 zc12 (by decide) wf_L_145 hf fun x30 hf => ?_
      refine z_cS_a (d' := d - 1) (As := [.ref v2, .int x30]) (rest := [.int v6, .ref y29.1, .ref y29.1]) dL_randomSale_170 lk_L_170 hf (fun w1 e1 => zc_L_random (by omega) e1) (by omega) rfl rfl (Nat.le_of_ble_eq_true rfl) fun y31 hf => ?_
      refine z_iconst (1 : Int32) dL_randomSale_173 (by decide) ?_
      refine z_aload_n 2 dL_randomSale_174 rfl rfl ?_
      refine z_aload_n 2 dL_randomSale_175 rfl rfl ?_
      refine z_iconst (4 : Int32) dL_randomSale_176 (by decide) ?_
      refine z_cV_i (d' := d - 1) (As := [.int (4 : Int32)]) (rest := [.ref v2, .int (1 : Int32), .ref y31.1, .int v6, .ref y29.1, .ref y29.1]) dL_randomSale_177 lk_L_124 rfl hf (fun w1 e1 => zc_X11_below (by omega) e1) (by omega) rfl rfl (Nat.le_of_ble_eq_true rfl) fun y32 hf => ?_
      refine zjn_elim (P := fun (j191 : Int32 → Nat → Nat → Int32 → Nat → Int32 → Nat → Int32 → zH → Option (Option Nat × zH)) => ∀ (v7 : Int32) (s0 : Nat) (s1 : Nat) (s2 : Int32) (s3 : Nat) (s4 : Int32) (s5 : Nat) (s6 : Int32) (h : zH), j191 v7 s0 s1 s2 s3 s4 s5 s6 h = some w → Z Γ m_L_randomSale d h0 (zoN w) 191 [(0, .ref v0), (1, .ref v1), (2, .ref v2), (3, .int v3), (4, .ref v4), (5, .int v5), (6, .int v6), (7, .int v7)] [.int s6, .ref s5, .int s4, .ref s3, .int s2, .ref s1, .ref s0] h) hf (fun v7 s0 s1 s2 s3 s4 s5 s6 h hf => ?_) (fun j191 hj191 hf => ?_)
      · refine z_cV_i (d' := d - 1) (As := [.int s6]) (rest := [.int s4, .ref s3, .int s2, .ref s1, .ref s0]) dL_randomSale_191 lk_L_124 rfl hf (fun w1 e1 => zc_X11_below (by omega) e1) (by omega) rfl rfl (Nat.le_of_ble_eq_true rfl) fun y33 hf => ?_
        refine z_iadd dL_randomSale_194 ?_
        refine z_cI_v (d' := d - 1) (As := [.int s2, .ref s3, .int (s4 + y33.1)]) (rest := [.ref s0]) dL_randomSale_195 lk_L_174 hf (fun w1 e1 => zc_X9_init (by omega) e1) (by omega) rfl rfl (Nat.le_of_ble_eq_true rfl) fun y34 hf => ?_
        refine z_astore [(8, .ref s0), (0, .ref v0), (1, .ref v1), (2, .ref v2), (3, .int v3), (4, .ref v4), (5, .int v5), (6, .int v6), (7, .int v7)] dL_randomSale_198 (by decide) rfl ?_
        refine z_aload 5 dL_randomSale_200 rfl ?_
        refine z_getA dL_randomSale_202 zc12 (by decide) wf_L_164 hf fun x35 hf => ?_
        refine z_iload 7 dL_randomSale_205 rfl ?_
        refine z_aload 5 dL_randomSale_207 rfl ?_
        refine z_getA dL_randomSale_209 zc12 (by decide) wf_L_164 hf fun x36 hf => ?_
        refine z_iload 7 dL_randomSale_212 rfl ?_
        refine z_aaload dL_randomSale_214 hf fun x37 hf => ?_
        refine z_aload 0 dL_randomSale_215 rfl ?_
        refine z_cS_a (d' := d - 1) (As := [.ref x37, .ref s0]) (rest := [.int v6, .ref x35]) dL_randomSale_217 lk_L_177 hf (fun w1 e1 => zc_L_with (by omega) e1) (by omega) rfl rfl (Nat.le_of_ble_eq_true rfl) fun y38 hf => ?_
        refine z_aastR dL_randomSale_220 wo_6 hf fun h39 hf => ?_
        refine z_aload_n 1 dL_randomSale_221 rfl rfl ?_
        refine z_aload_n 2 dL_randomSale_222 rfl rfl ?_
        refine z_ldcL 2 2 (by decide) (by decide) rfl rfl dL_randomSale_223 ?_
        refine z_iconst (3 : Int32) dL_randomSale_225 (by decide) ?_
        refine z_nwI dL_randomSale_226 wa_I hf fun y40 hf => ?_
        refine z_dup dL_randomSale_228 rfl ?_
        refine z_iconst (0 : Int32) dL_randomSale_229 (by decide) ?_
        refine z_iload 7 dL_randomSale_230 rfl ?_
        refine z_iastore dL_randomSale_232 hf fun h41 hf => ?_
        refine z_dup dL_randomSale_233 rfl ?_
        refine z_iconst (1 : Int32) dL_randomSale_234 (by decide) ?_
        refine z_aload 0 dL_randomSale_235 rfl ?_
        refine z_getA dL_randomSale_237 zc9 (by decide) wf_L_182 hf fun x42 hf => ?_
        refine z_cS_i (d' := d - 1) (As := [.ref x42]) (rest := [.int (1 : Int32), .ref y40.1, .ref y40.1, .ref ((zKa Γ) 2), .ref v1, .ref v0]) dL_randomSale_240 lk_L_185 hf (fun w1 e1 => zc_L_number (by omega) e1) (by omega) rfl rfl (Nat.le_of_ble_eq_true rfl) fun y43 hf => ?_
        refine z_iastore dL_randomSale_243 hf fun h44 hf => ?_
        refine z_dup dL_randomSale_244 rfl ?_
        refine z_iconst (2 : Int32) dL_randomSale_245 (by decide) ?_
        refine z_aload 0 dL_randomSale_246 rfl ?_
        refine z_getI dL_randomSale_248 zc9 (by decide) wf_L_189 hf fun x45 hf => ?_
        refine z_iastore dL_randomSale_251 hf fun h46 hf => ?_
        refine z_cS_v (d' := d - 1) (As := [.ref v0, .ref v1, .ref ((zKa Γ) 2), .ref y40.1]) (rest := []) dL_randomSale_252 lk_L_151 hf (fun w1 e1 => zc_L_writeNumbers (by omega) e1) (by omega) rfl rfl (Nat.le_of_ble_eq_true rfl) fun y47 hf => ?_
        refine z_iinc (v7 + (-1 : Int32)) 8 [(7, .int (v7 + (-1 : Int32))), (8, .ref s0), (0, .ref v0), (1, .ref v1), (2, .ref v2), (3, .int v3), (4, .ref v4), (5, .int v5), (6, .int v6)] dL_randomSale_255 rfl rfl (by decide) rfl ?_
        refine z_goto 153 dL_randomSale_258 (by decide) ?_
        exact Z.sub [2, 3, 4, 5, 6, 7, 8, 0] rfl (ih (v7 + (-1 : Int32)) y47 hf)
      · refine z_if_ne 189 dL_randomSale_180 (by decide) hf (fun hf => ?_) (fun hf => ?_)
        · refine z_sipush (999 : Int32) dL_randomSale_183 (by decide) ?_
          refine z_goto 191 dL_randomSale_186 (by decide) ?_
          exact Z.sub [0, 1, 2, 3, 4, 5, 6, 7] rfl (hj191 v7 y29.1 y29.1 v6 y31.1 (1 : Int32) v2 (999 : Int32) y32.2 hf)
        · refine z_bipush (9 : Int32) dL_randomSale_189 (by decide) ?_
          exact Z.sub [0, 1, 2, 3, 4, 5, 6, 7] rfl (hj191 v7 y29.1 y29.1 v6 y31.1 (1 : Int32) v2 (9 : Int32) y32.2 hf)
set_option maxRecDepth 4000 in
theorem zl_L_randomSale_77 {Γ : zG} {N d : Nat} {h0 : zH} (hd : 107 ≤ d) {v0 : Nat} {v1 : Nat} {v2 : Nat} {v3 : Int32} {v4 : Nat} {v5 : Int32} {k1 : zH → Option (Option Nat × zH)} {w : Option Nat × zH}  (hk1 : ∀ (h : zH), k1 h = some w → Z Γ m_L_randomSale d h0 (zoN w) 267 [(0, .ref v0), (1, .ref v1), (2, .ref v2), (4, .ref v4), (5, .int v5)] [] h) : ∀ (n : Nat) (v6 : Int32) (h : zH), f_L_randomSale_l77 N (zKa Γ) v0 v1 v2 v3 v4 v5 k1 n v6 h = some w → Z Γ m_L_randomSale d h0 (zoN w) 77 [(0, .ref v0), (1, .ref v1), (2, .ref v2), (3, .int v3), (4, .ref v4), (5, .int v5), (6, .int v6)] [] h := by
  intro n
  induction n with
  | zero => intro v6 h hf; cases hf
  | succ n ih =>
    intro v6 h hf
    rw [f_L_randomSale_l77] at hf
    refine z_iload 6 dL_randomSale_77 rfl ?_
    refine z_iload 5 dL_randomSale_79 rfl ?_
    refine z_icmp_ge 267 dL_randomSale_81 (by decide) hf (fun hf => ?_) (fun hf => ?_)
    · exact Z.sub [0, 1, 2, 4, 5] rfl (hk1 h hf)
    · refine z_aload 4 dL_randomSale_84 rfl ?_
      refine z_getA dL_randomSale_86 zc12 (by decide) wf_L_155 hf fun x16 hf => ?_
      refine z_iload 6 dL_randomSale_89 rfl ?_
      refine z_aload_n 2 dL_randomSale_91 rfl rfl ?_
      refine z_aload_n 2 dL_randomSale_92 rfl rfl ?_
      refine z_iconst (3 : Int32) dL_randomSale_93 (by decide) ?_
      refine z_cV_i (d' := d - 1) (As := [.int (3 : Int32)]) (rest := [.ref v2, .int v6, .ref x16]) dL_randomSale_94 lk_L_124 rfl hf (fun w1 e1 => zc_X11_below (by omega) e1) (by omega) rfl rfl (Nat.le_of_ble_eq_true rfl) fun y17 hf => ?_
      refine zjn_elim (P := fun (j107 : Int32 → Nat → Int32 → Nat → Int32 → zH → Option (Option Nat × zH)) => ∀ (v6 : Int32) (s0 : Nat) (s1 : Int32) (s2 : Nat) (s3 : Int32) (h : zH), j107 v6 s0 s1 s2 s3 h = some w → Z Γ m_L_randomSale d h0 (zoN w) 107 [(0, .ref v0), (1, .ref v1), (2, .ref v2), (3, .int v3), (4, .ref v4), (5, .int v5), (6, .int v6)] [.int s3, .ref s2, .int s1, .ref s0] h) hf (fun v6 s0 s1 s2 s3 h hf => ?_) (fun j107 hj107 hf => ?_)
      · refine z_cV_i (d' := d - 1) (As := [.int s3]) (rest := [.int s1, .ref s0]) dL_randomSale_107 lk_L_124 rfl hf (fun w1 e1 => zc_X11_below (by omega) e1) (by omega) rfl rfl (Nat.le_of_ble_eq_true rfl) fun y18 hf => ?_
        refine z_iastore dL_randomSale_110 hf fun h19 hf => ?_
        refine z_aload_n 0 dL_randomSale_111 rfl rfl ?_
        refine z_aload_n 1 dL_randomSale_112 rfl rfl ?_
        refine z_ldcL 1 1 (by decide) (by decide) rfl rfl dL_randomSale_113 ?_
        refine z_iconst (1 : Int32) dL_randomSale_115 (by decide) ?_
        refine z_nwI dL_randomSale_116 wa_I hf fun y20 hf => ?_
        refine z_dup dL_randomSale_118 rfl ?_
        refine z_iconst (0 : Int32) dL_randomSale_119 (by decide) ?_
        refine z_aload 4 dL_randomSale_120 rfl ?_
        refine z_getA dL_randomSale_122 zc12 (by decide) wf_L_155 hf fun x21 hf => ?_
        refine z_iload 6 dL_randomSale_125 rfl ?_
        refine z_iaload dL_randomSale_127 hf fun x22 hf => ?_
        refine z_iastore dL_randomSale_128 hf fun h23 hf => ?_
        refine z_cS_v (d' := d - 1) (As := [.ref v0, .ref v1, .ref ((zKa Γ) 1), .ref y20.1]) (rest := []) dL_randomSale_129 lk_L_151 hf (fun w1 e1 => zc_L_writeNumbers (by omega) e1) (by omega) rfl rfl (Nat.le_of_ble_eq_true rfl) fun y24 hf => ?_
        refine z_aload 4 dL_randomSale_132 rfl ?_
        refine z_getA dL_randomSale_134 zc12 (by decide) wf_L_164 hf fun x25 hf => ?_
        refine z_iload 6 dL_randomSale_137 rfl ?_
        refine z_iconst (0 : Int32) dL_randomSale_139 (by decide) ?_
        refine z_nwQ 5 rfl dL_randomSale_140 wc_L_129 wo_5 hf fun y26 hf => ?_
        refine z_aastR dL_randomSale_143 wo_6 hf fun h27 hf => ?_
        refine z_aload_n 2 dL_randomSale_144 rfl rfl ?_
        refine z_iload_n 3 dL_randomSale_145 rfl rfl ?_
        refine z_iconst (1 : Int32) dL_randomSale_146 (by decide) ?_
        refine z_iadd dL_randomSale_147 ?_
        refine z_cV_i (d' := d - 1) (As := [.int (v3 + (1 : Int32))]) (rest := []) dL_randomSale_148 lk_L_124 rfl hf (fun w1 e1 => zc_X11_below (by omega) e1) (by omega) rfl rfl (Nat.le_of_ble_eq_true rfl) fun y28 hf => ?_
        refine z_istore [(7, .int y28.1), (0, .ref v0), (1, .ref v1), (2, .ref v2), (3, .int v3), (4, .ref v4), (5, .int v5), (6, .int v6)] dL_randomSale_151 (by decide) rfl ?_
        refine Z.sub [1, 2, 3, 4, 5, 6, 7, 0] rfl (zl_L_randomSale_153 hd (fun h48 hf => ?_) N y28.1 y28.2 hf)
        · refine z_iinc (v6 + (1 : Int32)) 6 [(6, .int (v6 + (1 : Int32))), (0, .ref v0), (1, .ref v1), (2, .ref v2), (3, .int v3), (4, .ref v4), (5, .int v5)] dL_randomSale_261 rfl rfl (by decide) rfl ?_
          refine z_goto 77 dL_randomSale_264 (by decide) ?_
          exact Z.sub [1, 2, 3, 4, 5, 6, 0] rfl (ih (v6 + (1 : Int32)) h48 hf)
      · refine z_if_ne 105 dL_randomSale_97 (by decide) hf (fun hf => ?_) (fun hf => ?_)
        · refine z_ldc (100000 : Int32) dL_randomSale_100 wk_L_168 ?_
          refine z_goto 107 dL_randomSale_102 (by decide) ?_
          exact Z.sub [0, 1, 2, 3, 4, 5, 6] rfl (hj107 v6 x16 v6 v2 (100000 : Int32) y17.2 hf)
        · refine z_bipush (60 : Int32) dL_randomSale_105 (by decide) ?_
          exact Z.sub [0, 1, 2, 3, 4, 5, 6] rfl (hj107 v6 x16 v6 v2 (60 : Int32) y17.2 hf)
set_option maxRecDepth 4000 in
theorem zl_L_randomSale_282 {Γ : zG} {N d : Nat} {h0 : zH} (hd : 107 ≤ d) {v0 : Nat} {v1 : Nat} {v2 : Nat} {v4 : Nat} {v5 : Int32} {k1 : zH → Option (Option Nat × zH)} {w : Option Nat × zH}  (hk1 : ∀ (h : zH), k1 h = some w → Z Γ m_L_randomSale d h0 (zoN w) 337 [(0, .ref v0), (1, .ref v1), (2, .ref v2), (4, .ref v4), (5, .int v5)] [] h) : ∀ (n : Nat) (v6 : Int32) (h : zH), f_L_randomSale_l282 N (zKa Γ) v0 v1 v2 v4 v5 k1 n v6 h = some w → Z Γ m_L_randomSale d h0 (zoN w) 282 [(0, .ref v0), (1, .ref v1), (2, .ref v2), (4, .ref v4), (5, .int v5), (6, .int v6)] [] h := by
  intro n
  induction n with
  | zero => intro v6 h hf; cases hf
  | succ n ih =>
    intro v6 h hf
    rw [f_L_randomSale_l282] at hf
    refine z_iload 5 dL_randomSale_282 rfl ?_
    refine z_aload 3 dL_randomSale_284 rfl ?_
    refine z_getA dL_randomSale_286 zc12 (by decide) wf_L_192 hf fun x53 hf => ?_
    refine z_alen dL_randomSale_289 hf fun x54 hf => ?_
    refine z_icmp_ge 337 dL_randomSale_290 (by decide) hf (fun hf => ?_) (fun hf => ?_)
    · exact Z.sub [0, 1, 2, 3, 4] rfl (hk1 h hf)
    · refine z_aload 3 dL_randomSale_293 rfl ?_
      refine z_getA dL_randomSale_295 zc12 (by decide) wf_L_192 hf fun x55 hf => ?_
      refine z_iload 5 dL_randomSale_298 rfl ?_
      refine z_iconst (1 : Int32) dL_randomSale_300 (by decide) ?_
      refine z_aload_n 2 dL_randomSale_301 rfl rfl ?_
      refine z_sipush (9999 : Int32) dL_randomSale_302 (by decide) ?_
      refine z_cV_i (d' := d - 1) (As := [.int (9999 : Int32)]) (rest := [.int (1 : Int32), .int v6, .ref x55]) dL_randomSale_305 lk_L_124 rfl hf (fun w1 e1 => zc_X11_below (by omega) e1) (by omega) rfl rfl (Nat.le_of_ble_eq_true rfl) fun y56 hf => ?_
      refine z_iadd dL_randomSale_308 ?_
      refine z_iastore dL_randomSale_309 hf fun h57 hf => ?_
      refine z_aload_n 0 dL_randomSale_310 rfl rfl ?_
      refine z_aload_n 1 dL_randomSale_311 rfl rfl ?_
      refine z_ldcL 3 3 (by decide) (by decide) rfl rfl dL_randomSale_312 ?_
      refine z_iconst (1 : Int32) dL_randomSale_314 (by decide) ?_
      refine z_nwI dL_randomSale_315 wa_I hf fun y58 hf => ?_
      refine z_dup dL_randomSale_317 rfl ?_
      refine z_iconst (0 : Int32) dL_randomSale_318 (by decide) ?_
      refine z_aload 3 dL_randomSale_319 rfl ?_
      refine z_getA dL_randomSale_321 zc12 (by decide) wf_L_192 hf fun x59 hf => ?_
      refine z_iload 5 dL_randomSale_324 rfl ?_
      refine z_iaload dL_randomSale_326 hf fun x60 hf => ?_
      refine z_iastore dL_randomSale_327 hf fun h61 hf => ?_
      refine z_cS_v (d' := d - 1) (As := [.ref v0, .ref v1, .ref ((zKa Γ) 3), .ref y58.1]) (rest := []) dL_randomSale_328 lk_L_151 hf (fun w1 e1 => zc_L_writeNumbers (by omega) e1) (by omega) rfl rfl (Nat.le_of_ble_eq_true rfl) fun y62 hf => ?_
      refine z_iinc (v6 + (1 : Int32)) 5 [(6, .int (v6 + (1 : Int32))), (0, .ref v0), (1, .ref v1), (2, .ref v2), (4, .ref v4), (5, .int v5)] dL_randomSale_331 rfl rfl (by decide) rfl ?_
      refine z_goto 282 dL_randomSale_334 (by decide) ?_
      exact Z.sub [1, 2, 3, 4, 5, 0] rfl (ih (v6 + (1 : Int32)) y62 hf)
set_option maxRecDepth 4000 in
theorem zj_L_randomSale_387 {Γ : zG} {N d : Nat} {h0 : zH} (hd : 107 ≤ d) {v0 : Nat} {v1 : Nat} {v4 : Nat} {v5 : Int32}  {h : zH} {w : Option Nat × zH} (hf : f_L_randomSale_j387 N (zKa Γ) v0 v1 v4 v5  h = some w) : Z Γ m_L_randomSale d h0 (zoN w) 387 [(0, .ref v0), (1, .ref v1), (4, .ref v4), (5, .int v5)] [] h := by
  unfold f_L_randomSale_j387 at hf
  refine z_aload_n 0 dL_randomSale_387 rfl rfl ?_
  refine z_aload_n 1 dL_randomSale_388 rfl rfl ?_
  refine z_cS_i (d' := d - 1) (As := [.ref v0, .ref v1]) (rest := []) dL_randomSale_389 lk_L_214 hf (fun w1 e1 => zc_L_loadText (by omega) e1) (by omega) rfl rfl (Nat.le_of_ble_eq_true rfl) fun y65 hf => ?_
  refine z_iload 3 dL_randomSale_392 rfl ?_
  refine z_icmp_ne 402 dL_randomSale_394 (by decide) hf (fun hf => ?_) (fun hf => ?_)
  · refine z_aload 2 dL_randomSale_397 rfl ?_
    refine z_goto 403 dL_randomSale_399 (by decide) ?_
    exact z_aret dL_randomSale_403 rfl (Or.inl ⟨_, rfl⟩) (Or.inr ⟨_, rfl⟩) (by cases hf; rfl)
  · refine z_null dL_randomSale_402 ?_
    exact z_aret dL_randomSale_403 rfl (Or.inl ⟨_, rfl⟩) (Or.inl rfl) (by cases hf; rfl)
set_option maxRecDepth 4000 in
theorem zc_L_randomSale {Γ : zG} {N d : Nat} (hd : 107 ≤ d) {p1 : Nat} {p2 : Nat} {p3 : Nat} {p4 : Int32} {h : zH} {w : Option Nat × zH} (hf : f_L_randomSale N (zKa Γ) p1 p2 p3 p4 h = some w) : Zm Γ m_L_randomSale d [.ref p1, .ref p2, .ref p3, .int p4] h (zoN w) := by
  unfold f_L_randomSale at hf
  refine z_meth rfl (plainFor_of_name wpl_L) (by simp [lg_sl, Value.category, zml, m_L_randomSale]) ?_
  refine z_nwO dL_randomSale_0 zc12 wc_L_142 wn_X12 wi_X12 rfl zd12 hf fun y1 hf => ?_
  refine z_dup dL_randomSale_3 rfl ?_
  refine z_cIN_v (d' := d - 1) (As := []) (rest := [.ref y1.1]) dL_randomSale_4 lk_L_144 hf (fun w1 e1 => zc_X12_init (by omega) e1) (by omega) rfl rfl (Nat.le_of_ble_eq_true rfl) fun y2 hf => ?_
  refine z_astore [(4, .ref y1.1), (0, .ref p1), (1, .ref p2), (2, .ref p3), (3, .int p4)] dL_randomSale_7 (by decide) rfl ?_
  refine z_aload 0 dL_randomSale_9 rfl ?_
  refine z_iconst (2 : Int32) dL_randomSale_11 (by decide) ?_
  refine z_aload_n 3 dL_randomSale_12 rfl rfl ?_
  refine z_iconst (4 : Int32) dL_randomSale_13 (by decide) ?_
  refine z_cV_i (d' := d - 1) (As := [.int (4 : Int32)]) (rest := [.int (2 : Int32), .ref y1.1]) dL_randomSale_14 lk_L_124 rfl hf (fun w1 e1 => zc_X11_below (by omega) e1) (by omega) rfl rfl (Nat.le_of_ble_eq_true rfl) fun y3 hf => ?_
  refine z_iadd dL_randomSale_17 ?_
  refine z_putB dL_randomSale_18 zc12 (by decide) wf_L_145 (Or.inl rfl) rfl rfl hf fun h4 hf => ?_
  refine z_aload_n 1 dL_randomSale_21 rfl rfl ?_
  refine z_aload_n 2 dL_randomSale_22 rfl rfl ?_
  refine z_ldcL 0 0 (by decide) (by decide) rfl rfl dL_randomSale_23 ?_
  refine z_iconst (1 : Int32) dL_randomSale_25 (by decide) ?_
  refine z_nwI dL_randomSale_26 wa_I hf fun y5 hf => ?_
  refine z_dup dL_randomSale_28 rfl ?_
  refine z_iconst (0 : Int32) dL_randomSale_29 (by decide) ?_
  refine z_aload 0 dL_randomSale_30 rfl ?_
  refine z_getI dL_randomSale_32 zc12 (by decide) wf_L_145 hf fun x6 hf => ?_
  refine z_iastore dL_randomSale_35 hf fun h7 hf => ?_
  refine z_cS_v (d' := d - 1) (As := [.ref p1, .ref p2, .ref ((zKa Γ) 0), .ref y5.1]) (rest := []) dL_randomSale_36 lk_L_151 hf (fun w1 e1 => zc_L_writeNumbers (by omega) e1) (by omega) rfl rfl (Nat.le_of_ble_eq_true rfl) fun y8 hf => ?_
  refine z_aload_n 3 dL_randomSale_39 rfl rfl ?_
  refine z_iconst (5 : Int32) dL_randomSale_40 (by decide) ?_
  refine z_cV_i (d' := d - 1) (As := [.int (5 : Int32)]) (rest := []) dL_randomSale_41 lk_L_124 rfl hf (fun w1 e1 => zc_X11_below (by omega) e1) (by omega) rfl rfl (Nat.le_of_ble_eq_true rfl) fun y9 hf => ?_
  refine z_istore [(5, .int y9.1), (4, .ref y1.1), (0, .ref p1), (1, .ref p2), (2, .ref p3), (3, .int p4)] dL_randomSale_44 (by decide) rfl ?_
  refine z_aload 1 dL_randomSale_46 rfl ?_
  refine z_iload 0 dL_randomSale_48 rfl ?_
  refine z_nwI dL_randomSale_50 wa_I hf fun y10 hf => ?_
  refine z_putB dL_randomSale_52 zc12 (by decide) wf_L_155 (Or.inl rfl) rfl rfl hf fun h11 hf => ?_
  refine z_aload 1 dL_randomSale_55 rfl ?_
  refine z_iload 0 dL_randomSale_57 rfl ?_
  refine z_nwI dL_randomSale_59 wa_I hf fun y12 hf => ?_
  refine z_putB dL_randomSale_61 zc12 (by decide) wf_L_159 (Or.inl rfl) rfl rfl hf fun h13 hf => ?_
  refine z_aload 1 dL_randomSale_64 rfl ?_
  refine z_iload 0 dL_randomSale_66 rfl ?_
  refine z_nwR dL_randomSale_68 wc_L_162 wo_6 hf fun y14 hf => ?_
  refine z_putB dL_randomSale_71 zc12 (by decide) wf_L_164 (Or.inl rfl) rfl rfl hf fun h15 hf => ?_
  refine z_iconst (0 : Int32) dL_randomSale_74 (by decide) ?_
  refine z_istore [(6, .int (0 : Int32)), (5, .int y9.1), (4, .ref y1.1), (0, .ref p1), (1, .ref p2), (2, .ref p3), (3, .int p4)] dL_randomSale_75 (by decide) rfl ?_
  refine Z.sub [3, 4, 5, 6, 2, 1, 0] rfl (zl_L_randomSale_77 hd (fun h49 hf => ?_) N (0 : Int32) h15 hf)
  · refine z_aload 3 dL_randomSale_267 rfl ?_
    refine z_aload_n 2 dL_randomSale_269 rfl rfl ?_
    refine z_iconst (4 : Int32) dL_randomSale_270 (by decide) ?_
    refine z_cV_i (d' := d - 1) (As := [.int (4 : Int32)]) (rest := [.ref y1.1]) dL_randomSale_271 lk_L_124 rfl hf (fun w1 e1 => zc_X11_below (by omega) e1) (by omega) rfl rfl (Nat.le_of_ble_eq_true rfl) fun y50 hf => ?_
    refine z_nwI dL_randomSale_274 wa_I hf fun y51 hf => ?_
    refine z_putB dL_randomSale_276 zc12 (by decide) wf_L_192 (Or.inl rfl) rfl rfl hf fun h52 hf => ?_
    refine z_iconst (0 : Int32) dL_randomSale_279 (by decide) ?_
    refine z_istore [(6, .int (0 : Int32)), (0, .ref p1), (1, .ref p2), (2, .ref p3), (4, .ref y1.1), (5, .int y9.1)] dL_randomSale_280 (by decide) rfl ?_
    refine Z.sub [1, 2, 3, 4, 5, 0] rfl (zl_L_randomSale_282 hd (fun h63 hf => ?_) N (0 : Int32) h52 hf)
    · refine z_aload_n 2 dL_randomSale_337 rfl rfl ?_
      refine z_iconst (2 : Int32) dL_randomSale_338 (by decide) ?_
      refine z_cV_i (d' := d - 1) (As := [.int (2 : Int32)]) (rest := []) dL_randomSale_339 lk_L_124 rfl hf (fun w1 e1 => zc_X11_below (by omega) e1) (by omega) rfl rfl (Nat.le_of_ble_eq_true rfl) fun y64 hf => ?_
      refine z_if_ne 387 dL_randomSale_342 (by decide) hf (fun hf => ?_) (fun hf => ?_)
      · refine z_aload 3 dL_randomSale_345 rfl ?_
        refine z_aload_n 2 dL_randomSale_347 rfl rfl ?_
        refine z_aload_n 2 dL_randomSale_348 rfl rfl ?_
        refine z_iconst (3 : Int32) dL_randomSale_349 (by decide) ?_
        refine z_cV_i (d' := d - 1) (As := [.int (3 : Int32)]) (rest := [.ref p3, .ref y1.1]) dL_randomSale_350 lk_L_124 rfl hf (fun w1 e1 => zc_X11_below (by omega) e1) (by omega) rfl rfl (Nat.le_of_ble_eq_true rfl) fun y66 hf => ?_
        refine z_cS_a (d' := d - 1) (As := [.ref p3, .int y66.1]) (rest := [.ref y1.1]) dL_randomSale_353 lk_L_197 hf (fun w1 e1 => zc_X10_randomN (by omega) e1) (by omega) rfl rfl (Nat.le_of_ble_eq_true rfl) fun y67 hf => ?_
        refine z_putB dL_randomSale_356 zc12 (by decide) wf_L_202 (Or.inl rfl) rfl rfl hf fun h68 hf => ?_
        refine z_aload_n 0 dL_randomSale_359 rfl rfl ?_
        refine z_aload_n 1 dL_randomSale_360 rfl rfl ?_
        refine z_ldcL 4 9 (by decide) (by decide) rfl rfl dL_randomSale_361 ?_
        refine z_cS_v (d' := d - 1) (As := [.ref p1, .ref p2, .ref ((zKa Γ) 9)]) (rest := []) dL_randomSale_363 lk_L_131 hf (fun w1 e1 => zc_L_write (by omega) e1) (by omega) rfl rfl (Nat.le_of_ble_eq_true rfl) fun y69 hf => ?_
        refine z_aload_n 0 dL_randomSale_366 rfl rfl ?_
        refine z_aload_n 1 dL_randomSale_367 rfl rfl ?_
        refine z_aload 3 dL_randomSale_368 rfl ?_
        refine z_getO dL_randomSale_370 zc12 (by decide) wf_L_202 hf (fun hf => ?_) (fun x70 hf => ?_)
        · refine z_iconst (0 : Int32) dL_randomSale_373 (by decide) ?_
          cases hf
        · refine z_iconst (0 : Int32) dL_randomSale_373 (by decide) ?_
          refine z_cV_a (d' := d - 1) (As := [.int (0 : Int32)]) (rest := [.ref p2, .ref p1]) dL_randomSale_374 lk_L_208 rfl hf (fun w1 e1 => zc_X10_textN (by omega) e1) (by omega) rfl rfl (Nat.le_of_ble_eq_true rfl) fun y72 hf => ?_
          refine z_cS_v (d' := d - 1) (As := [.ref p1, .ref p2, .ref y72.1]) (rest := []) dL_randomSale_377 lk_L_131 hf (fun w1 e1 => zc_L_write (by omega) e1) (by omega) rfl rfl (Nat.le_of_ble_eq_true rfl) fun y73 hf => ?_
          refine z_aload_n 0 dL_randomSale_380 rfl rfl ?_
          refine z_aload_n 1 dL_randomSale_381 rfl rfl ?_
          refine z_ldcL 5 10 (by decide) (by decide) rfl rfl dL_randomSale_382 ?_
          refine z_cS_v (d' := d - 1) (As := [.ref p1, .ref p2, .ref ((zKa Γ) 10)]) (rest := []) dL_randomSale_384 lk_L_131 hf (fun w1 e1 => zc_L_write (by omega) e1) (by omega) rfl rfl (Nat.le_of_ble_eq_true rfl) fun y74 hf => ?_
          exact Z.sub [0, 1, 3, 4] rfl (zj_L_randomSale_387 hd hf)
      · exact Z.sub [0, 1, 3, 4] rfl (zj_L_randomSale_387 hd hf)
set_option maxRecDepth 4000 in
theorem zl_X12_copy_58 {Γ : zG} {N d : Nat} {h0 : zH} (hd : 11 ≤ d) {v0 : Nat} {v1 : Nat} {k1 : zH → Option (Nat × zH)} {w : Nat × zH}  (hk1 : ∀ (h : zH), k1 h = some w → Z Γ m_X12_copy d h0 (zoA w) 85 [(0, .ref v0), (1, .ref v1)] [] h) : ∀ (n : Nat) (v2 : Int32) (h : zH), f_X12_copy_l58 N v0 v1 k1 n v2 h = some w → Z Γ m_X12_copy d h0 (zoA w) 58 [(0, .ref v0), (1, .ref v1), (2, .int v2)] [] h := by
  intro n
  induction n with
  | zero => intro v2 h hf; cases hf
  | succ n ih =>
    intro v2 h hf
    rw [f_X12_copy_l58] at hf
    refine z_iload_n 2 dX12_copy_58 rfl rfl ?_
    refine z_aload_n 0 dX12_copy_59 rfl rfl ?_
    refine z_getA dX12_copy_60 zc12 (by decide) wf_X12_22 hf fun x15 hf => ?_
    refine z_alen dX12_copy_63 hf fun x16 hf => ?_
    refine z_icmp_ge 85 dX12_copy_64 (by decide) hf (fun hf => ?_) (fun hf => ?_)
    · exact Z.sub [0, 1] rfl (hk1 h hf)
    · refine z_aload_n 1 dX12_copy_67 rfl rfl ?_
      refine z_getA dX12_copy_68 zc12 (by decide) wf_X12_22 hf fun x17 hf => ?_
      refine z_iload_n 2 dX12_copy_71 rfl rfl ?_
      refine z_aload_n 0 dX12_copy_72 rfl rfl ?_
      refine z_getA dX12_copy_73 zc12 (by decide) wf_X12_22 hf fun x18 hf => ?_
      refine z_iload_n 2 dX12_copy_76 rfl rfl ?_
      refine z_aaload dX12_copy_77 hf fun x19 hf => ?_
      refine z_aastR dX12_copy_78 wo_6 hf fun h20 hf => ?_
      refine z_iinc (v2 + (1 : Int32)) 2 [(2, .int (v2 + (1 : Int32))), (0, .ref v0), (1, .ref v1)] dX12_copy_79 rfl rfl (by decide) rfl ?_
      refine z_goto 58 dX12_copy_82 (by decide) ?_
      exact Z.sub [1, 2, 0] rfl (ih (v2 + (1 : Int32)) h20 hf)
set_option maxRecDepth 4000 in
theorem zc_X12_copy {Γ : zG} {N d : Nat} (hd : 11 ≤ d) {a : Nat} {h : zH} {w : Nat × zH} (hf : f_X12_copy N a h = some w) : Zm Γ m_X12_copy d [.ref a] h (zoA w) := by
  unfold f_X12_copy at hf
  refine z_meth rfl (plainFor_of_name wpl_X12) (by simp [lg_sl, Value.category, zml, m_X12_copy]) ?_
  refine z_nwO dX12_copy_0 zc12 wc_X12_8 wn_X12 wi_X12 rfl zd12 hf fun y1 hf => ?_
  refine z_dup dX12_copy_3 rfl ?_
  refine z_cI_v (d' := d - 1) (As := []) (rest := [.ref y1.1]) dX12_copy_4 lk_X12_34 hf (fun w1 e1 => zc_X12_init (by omega) e1) (by omega) rfl rfl (Nat.le_of_ble_eq_true rfl) fun y2 hf => ?_
  refine z_astore_n [(1, .ref y1.1), (0, .ref a)] dX12_copy_7 rfl (by decide) rfl ?_
  refine z_aload_n 0 dX12_copy_8 rfl rfl ?_
  refine z_aload_n 1 dX12_copy_9 rfl rfl ?_
  refine z_getI dX12_copy_10 zc12 (by decide) wf_X12_7 hf fun x3 hf => ?_
  refine z_putB dX12_copy_13 zc12 (by decide) wf_X12_7 (Or.inl rfl) rfl rfl hf fun h4 hf => ?_
  refine z_aload_n 0 dX12_copy_16 rfl rfl ?_
  refine z_aload_n 1 dX12_copy_17 rfl rfl ?_
  refine z_getA dX12_copy_18 zc12 (by decide) wf_X12_13 hf fun x5 hf => ?_
  refine z_cnI dX12_copy_21 wl_X12_35 wcl_I1 wcl_2 wcl_3 wcl_I4 wcl_I5 (by omega) (Nat.le_of_ble_eq_true rfl) hf fun y6 hf hy9 => ?_
  refine z_castA (k := 0) dX12_copy_24 (by decide) (Classical.choose_spec hy9) (fun hr => hr) wc_X12_36 ?_
  refine z_putB dX12_copy_27 zc12 (by decide) wf_X12_13 (Or.inl rfl) rfl rfl hf fun h7 hf => ?_
  refine z_aload_n 0 dX12_copy_30 rfl rfl ?_
  refine z_aload_n 1 dX12_copy_31 rfl rfl ?_
  refine z_getA dX12_copy_32 zc12 (by decide) wf_X12_17 hf fun x8 hf => ?_
  refine z_cnI dX12_copy_35 wl_X12_35 wcl_I1 wcl_2 wcl_3 wcl_I4 wcl_I5 (by omega) (Nat.le_of_ble_eq_true rfl) hf fun y9 hf hy9 => ?_
  refine z_castA (k := 0) dX12_copy_38 (by decide) (Classical.choose_spec hy9) (fun hr => hr) wc_X12_36 ?_
  refine z_putB dX12_copy_41 zc12 (by decide) wf_X12_17 (Or.inl rfl) rfl rfl hf fun h10 hf => ?_
  refine z_aload_n 0 dX12_copy_44 rfl rfl ?_
  refine z_aload_n 1 dX12_copy_45 rfl rfl ?_
  refine z_getA dX12_copy_46 zc12 (by decide) wf_X12_22 hf fun x11 hf => ?_
  refine z_alen dX12_copy_49 hf fun x12 hf => ?_
  refine z_nwR dX12_copy_50 wc_X12_20 wo_6 hf fun y13 hf => ?_
  refine z_putB dX12_copy_53 zc12 (by decide) wf_X12_22 (Or.inl rfl) rfl rfl hf fun h14 hf => ?_
  refine z_iconst (0 : Int32) dX12_copy_56 (by decide) ?_
  refine z_istore_n [(2, .int (0 : Int32)), (1, .ref y1.1), (0, .ref a)] dX12_copy_57 rfl (by decide) rfl ?_
  refine Z.sub [2, 1, 0] rfl (zl_X12_copy_58 hd (fun h21 hf => ?_) N (0 : Int32) h14 hf)
  · refine z_aload_n 1 dX12_copy_85 rfl rfl ?_
    refine z_aload_n 0 dX12_copy_86 rfl rfl ?_
    refine z_getA dX12_copy_87 zc12 (by decide) wf_X12_26 hf fun x22 hf => ?_
    refine z_putB dX12_copy_90 zc12 (by decide) wf_X12_26 (Or.inl rfl) rfl rfl hf fun h23 hf => ?_
    refine z_aload_n 1 dX12_copy_93 rfl rfl ?_
    refine z_aload_n 0 dX12_copy_94 rfl rfl ?_
    refine z_getI dX12_copy_95 zc12 (by decide) wf_X12_40 hf fun x24 hf => ?_
    refine z_putB dX12_copy_98 zc12 (by decide) wf_X12_40 (Or.inl rfl) rfl rfl hf fun h25 hf => ?_
    refine z_aload_n 1 dX12_copy_101 rfl rfl ?_
    refine z_aload_n 0 dX12_copy_102 rfl rfl ?_
    refine z_getI dX12_copy_103 zc12 (by decide) wf_X12_43 hf fun x26 hf => ?_
    refine z_putB dX12_copy_106 zc12 (by decide) wf_X12_43 (Or.inl rfl) rfl rfl hf fun h27 hf => ?_
    refine z_aload_n 1 dX12_copy_109 rfl rfl ?_
    refine z_aload_n 0 dX12_copy_110 rfl rfl ?_
    refine z_getA dX12_copy_111 zc12 (by decide) wf_X12_31 hf fun x28 hf => ?_
    refine z_putB dX12_copy_114 zc12 (by decide) wf_X12_31 (Or.inl rfl) rfl rfl hf fun h29 hf => ?_
    refine z_aload_n 1 dX12_copy_117 rfl rfl ?_
    refine z_aload_n 0 dX12_copy_118 rfl rfl ?_
    refine z_getI dX12_copy_119 zc12 (by decide) wf_X12_46 hf fun x30 hf => ?_
    refine z_putB dX12_copy_122 zc12 (by decide) wf_X12_46 (Or.inl rfl) rfl rfl hf fun h31 hf => ?_
    refine z_aload_n 1 dX12_copy_125 rfl rfl ?_
    refine z_aload_n 0 dX12_copy_126 rfl rfl ?_
    refine z_getI dX12_copy_127 zc12 (by decide) wf_X12_49 hf fun x32 hf => ?_
    refine z_putB dX12_copy_130 zc12 (by decide) wf_X12_49 (Or.inl rfl) rfl rfl hf fun h33 hf => ?_
    refine z_aload_n 1 dX12_copy_133 rfl rfl ?_
    refine z_aload_n 0 dX12_copy_134 rfl rfl ?_
    refine z_getI dX12_copy_135 zc12 (by decide) wf_X12_52 hf fun x34 hf => ?_
    refine z_putB dX12_copy_138 zc12 (by decide) wf_X12_52 (Or.inl rfl) rfl rfl hf fun h35 hf => ?_
    refine z_aload_n 1 dX12_copy_141 rfl rfl ?_
    refine z_aload_n 0 dX12_copy_142 rfl rfl ?_
    refine z_getO dX12_copy_143 zc12 (by decide) wf_X12_55 hf (fun hf => ?_) (fun x36 hf => ?_)
    · refine z_putB dX12_copy_146 zc12 (by decide) wf_X12_55 (Or.inl rfl) rfl rfl hf fun h37 hf => ?_
      refine z_aload_n 1 dX12_copy_149 rfl rfl ?_
      exact z_aret dX12_copy_150 rfl (Or.inl ⟨_, rfl⟩) (Or.inr ⟨_, rfl⟩) (by cases hf; rfl)
    · refine z_putB dX12_copy_146 zc12 (by decide) wf_X12_55 (Or.inl rfl) rfl rfl hf fun h38 hf => ?_
      refine z_aload_n 1 dX12_copy_149 rfl rfl ?_
      exact z_aret dX12_copy_150 rfl (Or.inl ⟨_, rfl⟩) (Or.inr ⟨_, rfl⟩) (by cases hf; rfl)
set_option maxRecDepth 4000 in
theorem zl_L_without_10 {Γ : zG} {N d : Nat} {h0 : zH} (hd : 10 ≤ d) {v0 : Nat} {v1 : Int32} {v2 : Nat}  {w : Nat × zH}   : ∀ (n : Nat) (v3 : Int32) (h : zH), f_L_without_l10 N v0 v1 v2 n v3 h = some w → Z Γ m_L_without d h0 (zoA w) 10 [(0, .ref v0), (1, .int v1), (2, .ref v2), (3, .int v3)] [] h := by
  intro n
  induction n with
  | zero => intro v3 h hf; cases hf
  | succ n ih =>
    intro v3 h hf
    rw [f_L_without_l10] at hf
    refine z_iload_n 3 dL_without_10 rfl rfl ?_
    refine z_aload_n 2 dL_without_11 rfl rfl ?_
    refine z_alen dL_without_12 hf fun x3 hf => ?_
    refine z_icmp_ge 39 dL_without_13 (by decide) hf (fun hf => ?_) (fun hf => ?_)
    · refine z_aload_n 2 dL_without_39 rfl rfl ?_
      exact z_aret dL_without_40 rfl (Or.inr ⟨_, rfl⟩) (Or.inr ⟨_, rfl⟩) (by cases hf; rfl)
    · refine z_aload_n 2 dL_without_16 rfl rfl ?_
      refine z_iload_n 3 dL_without_17 rfl rfl ?_
      refine z_aload_n 0 dL_without_18 rfl rfl ?_
      refine z_iload_n 3 dL_without_19 rfl rfl ?_
      refine z_iload_n 1 dL_without_20 rfl rfl ?_
      refine zjn_elim (P := fun (j31 : Int32 → Nat → Int32 → Nat → Int32 → zH → Option (Nat × zH)) => ∀ (v3 : Int32) (s0 : Nat) (s1 : Int32) (s2 : Nat) (s3 : Int32) (h : zH), j31 v3 s0 s1 s2 s3 h = some w → Z Γ m_L_without d h0 (zoA w) 31 [(0, .ref v0), (1, .int v1), (2, .ref v2), (3, .int v3)] [.int s3, .ref s2, .int s1, .ref s0] h) hf (fun v3 s0 s1 s2 s3 h hf => ?_) (fun j31 hj31 hf => ?_)
      · refine z_aaload dL_without_31 hf fun x4 hf => ?_
        refine z_aastore dL_without_32 hf fun h5 hf => ?_
        refine z_iinc (v3 + (1 : Int32)) 3 [(3, .int (v3 + (1 : Int32))), (0, .ref v0), (1, .int v1), (2, .ref v2)] dL_without_33 rfl rfl (by decide) rfl ?_
        refine z_goto 10 dL_without_36 (by decide) ?_
        exact Z.sub [1, 2, 3, 0] rfl (ih (v3 + (1 : Int32)) h5 hf)
      · refine z_icmp_ge 28 dL_without_21 (by decide) hf (fun hf => ?_) (fun hf => ?_)
        · refine z_iload_n 3 dL_without_28 rfl rfl ?_
          refine z_iconst (1 : Int32) dL_without_29 (by decide) ?_
          refine z_iadd dL_without_30 ?_
          exact Z.sub [0, 1, 2, 3] rfl (hj31 v3 v2 v3 v0 (v3 + (1 : Int32)) h hf)
        · refine z_iload_n 3 dL_without_24 rfl rfl ?_
          refine z_goto 31 dL_without_25 (by decide) ?_
          exact Z.sub [0, 1, 2, 3] rfl (hj31 v3 v2 v3 v0 v3 h hf)
set_option maxRecDepth 4000 in
theorem zc_L_without {Γ : zG} {N d : Nat} (hd : 10 ≤ d) {p1 : Nat} {p2 : Int32} {h : zH} {w : Nat × zH} (hf : f_L_without N p1 p2 h = some w) : Zm Γ m_L_without d [.ref p1, .int p2] h (zoA w) := by
  unfold f_L_without at hf
  refine z_meth rfl (plainFor_of_name wpl_L) (by simp [lg_sl, Value.category, zml, m_L_without]) ?_
  refine z_aload_n 0 dL_without_0 rfl rfl ?_
  refine z_alen dL_without_1 hf fun x1 hf => ?_
  refine z_iconst (1 : Int32) dL_without_2 (by decide) ?_
  refine z_isub dL_without_3 ?_
  refine z_nwQ 5 rfl dL_without_4 wc_L_129 wo_5 hf fun y2 hf => ?_
  refine z_astore_n [(2, .ref y2.1), (0, .ref p1), (1, .int p2)] dL_without_7 rfl (by decide) rfl ?_
  refine z_iconst (0 : Int32) dL_without_8 (by decide) ?_
  refine z_istore_n [(3, .int (0 : Int32)), (2, .ref y2.1), (0, .ref p1), (1, .int p2)] dL_without_9 rfl (by decide) rfl ?_
  refine Z.sub [2, 3, 1, 0] rfl (zl_L_without_10 hd  N (0 : Int32) y2.2 hf)

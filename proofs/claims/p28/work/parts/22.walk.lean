set_option maxRecDepth 4000 in
theorem zc_X12_isOver {Γ : zG} {N d : Nat} (hd : 10 ≤ d) {a : Nat} {h : zH} {w : Int32 × zH} (hf : f_X12_isOver N a h = some w) : Zm Γ m_X12_isOver d [.ref a] h (zoI w) := by
  unfold f_X12_isOver at hf
  refine z_meth rfl (plainFor_of_name wpl_X12) (by simp [lg_sl, Value.category, zml, m_X12_isOver]) ?_
  refine z_aload_n 0 dX12_isOver_0 rfl rfl ?_
  refine z_getA dX12_isOver_1 zc12 (by decide) wf_X12_13 hf fun x1 hf => ?_
  refine z_alen dX12_isOver_4 hf fun x2 hf => ?_
  refine z_if_eq 20 dX12_isOver_5 (by decide) hf (fun hf => ?_) (fun hf => ?_)
  · refine z_iconst (1 : Int32) dX12_isOver_20 (by decide) ?_
    refine z_goto 25 dX12_isOver_21 (by decide) ?_
    exact z_zret dX12_isOver_25 rfl (Or.inr rfl) (by cases hf; rfl)
  · refine z_aload_n 0 dX12_isOver_8 rfl rfl ?_
    refine z_getI dX12_isOver_9 zc12 (by decide) wf_X12_40 hf fun x3 hf => ?_
    refine z_aload_n 0 dX12_isOver_12 rfl rfl ?_
    refine z_getA dX12_isOver_13 zc12 (by decide) wf_X12_26 hf fun x4 hf => ?_
    refine z_alen dX12_isOver_16 hf fun x5 hf => ?_
    refine z_icmp_lt 24 dX12_isOver_17 (by decide) hf (fun hf => ?_) (fun hf => ?_)
    · refine z_iconst (0 : Int32) dX12_isOver_24 (by decide) ?_
      exact z_zret dX12_isOver_25 rfl (Or.inl rfl) (by cases hf; rfl)
    · refine z_iconst (1 : Int32) dX12_isOver_20 (by decide) ?_
      refine z_goto 25 dX12_isOver_21 (by decide) ?_
      exact z_zret dX12_isOver_25 rfl (Or.inr rfl) (by cases hf; rfl)
set_option maxRecDepth 4000 in
theorem zc_X12_told {Γ : zG} {N d : Nat} (hd : 11 ≤ d) {a : Nat} {p1 : Int32} {h : zH} {w : Int32 × zH} (hf : f_X12_told N a p1 h = some w) : Zm Γ m_X12_told d [.ref a, .int p1] h (zoI w) := by
  unfold f_X12_told at hf
  refine z_meth rfl (plainFor_of_name wpl_X12) (by simp [lg_sl, Value.category, zml, m_X12_told]) ?_
  refine z_iload_n 1 dX12_told_0 rfl rfl ?_
  refine z_if_ne 11 dX12_told_1 (by decide) hf (fun hf => ?_) (fun hf => ?_)
  · refine z_aload_n 0 dX12_told_4 rfl rfl ?_
    refine z_getI dX12_told_5 zc12 (by decide) wf_X12_7 hf fun x14 hf => ?_
    refine z_goto 126 dX12_told_8 (by decide) ?_
    exact z_iret dX12_told_126 rfl (by cases hf; rfl)
  · refine z_iload_n 1 dX12_told_11 rfl rfl ?_
    refine z_iconst (1 : Int32) dX12_told_12 (by decide) ?_
    refine z_icmp_ne 24 dX12_told_13 (by decide) hf (fun hf => ?_) (fun hf => ?_)
    · refine z_aload_n 0 dX12_told_16 rfl rfl ?_
      refine z_getA dX12_told_17 zc12 (by decide) wf_X12_13 hf fun x12 hf => ?_
      refine z_alen dX12_told_20 hf fun x13 hf => ?_
      refine z_goto 126 dX12_told_21 (by decide) ?_
      exact z_iret dX12_told_126 rfl (by cases hf; rfl)
    · refine z_iload_n 1 dX12_told_24 rfl rfl ?_
      refine z_iconst (2 : Int32) dX12_told_25 (by decide) ?_
      refine z_icmp_ne 37 dX12_told_26 (by decide) hf (fun hf => ?_) (fun hf => ?_)
      · refine z_aload_n 0 dX12_told_29 rfl rfl ?_
        refine z_getA dX12_told_30 zc12 (by decide) wf_X12_26 hf fun x10 hf => ?_
        refine z_alen dX12_told_33 hf fun x11 hf => ?_
        refine z_goto 126 dX12_told_34 (by decide) ?_
        exact z_iret dX12_told_126 rfl (by cases hf; rfl)
      · refine z_iload_n 1 dX12_told_37 rfl rfl ?_
        refine z_iconst (3 : Int32) dX12_told_38 (by decide) ?_
        refine z_icmp_ne 60 dX12_told_39 (by decide) hf (fun hf => ?_) (fun hf => ?_)
        · refine z_aload_n 0 dX12_told_42 rfl rfl ?_
          refine z_cV_i (d' := d - 1) (As := []) (rest := []) dX12_told_43 lk_X12_137 rfl hf (fun w1 e1 => zc_X12_isOver (by omega) e1) (by omega) rfl rfl (Nat.le_of_ble_eq_true rfl) fun y8 hf => ?_
          refine z_if_eq 53 dX12_told_46 (by decide) hf (fun hf => ?_) (fun hf => ?_)
          · refine z_aload_n 0 dX12_told_53 rfl rfl ?_
            refine z_getI dX12_told_54 zc12 (by decide) wf_X12_40 hf fun x9 hf => ?_
            refine z_goto 126 dX12_told_57 (by decide) ?_
            exact z_iret dX12_told_126 rfl (by cases hf; rfl)
          · refine z_iconst (-1 : Int32) dX12_told_49 (by decide) ?_
            refine z_goto 126 dX12_told_50 (by decide) ?_
            exact z_iret dX12_told_126 rfl (by cases hf; rfl)
        · refine z_iload_n 1 dX12_told_60 rfl rfl ?_
          refine z_iconst (4 : Int32) dX12_told_61 (by decide) ?_
          refine z_icmp_ne 83 dX12_told_62 (by decide) hf (fun hf => ?_) (fun hf => ?_)
          · refine z_aload_n 0 dX12_told_65 rfl rfl ?_
            refine z_cV_i (d' := d - 1) (As := []) (rest := []) dX12_told_66 lk_X12_137 rfl hf (fun w1 e1 => zc_X12_isOver (by omega) e1) (by omega) rfl rfl (Nat.le_of_ble_eq_true rfl) fun y6 hf => ?_
            refine z_if_eq 76 dX12_told_69 (by decide) hf (fun hf => ?_) (fun hf => ?_)
            · refine z_aload_n 0 dX12_told_76 rfl rfl ?_
              refine z_getI dX12_told_77 zc12 (by decide) wf_X12_43 hf fun x7 hf => ?_
              refine z_goto 126 dX12_told_80 (by decide) ?_
              exact z_iret dX12_told_126 rfl (by cases hf; rfl)
            · refine z_iconst (-1 : Int32) dX12_told_72 (by decide) ?_
              refine z_goto 126 dX12_told_73 (by decide) ?_
              exact z_iret dX12_told_126 rfl (by cases hf; rfl)
          · refine z_iload_n 1 dX12_told_83 rfl rfl ?_
            refine z_iconst (5 : Int32) dX12_told_84 (by decide) ?_
            refine z_icmp_ne 96 dX12_told_85 (by decide) hf (fun hf => ?_) (fun hf => ?_)
            · refine z_aload_n 0 dX12_told_88 rfl rfl ?_
              refine z_getA dX12_told_89 zc12 (by decide) wf_X12_31 hf fun x4 hf => ?_
              refine z_alen dX12_told_92 hf fun x5 hf => ?_
              refine z_goto 126 dX12_told_93 (by decide) ?_
              exact z_iret dX12_told_126 rfl (by cases hf; rfl)
            · refine z_iload_n 1 dX12_told_96 rfl rfl ?_
              refine z_bipush (6 : Int32) dX12_told_97 (by decide) ?_
              refine z_icmp_ne 109 dX12_told_99 (by decide) hf (fun hf => ?_) (fun hf => ?_)
              · refine z_aload_n 0 dX12_told_102 rfl rfl ?_
                refine z_getI dX12_told_103 zc12 (by decide) wf_X12_46 hf fun x3 hf => ?_
                refine z_goto 126 dX12_told_106 (by decide) ?_
                exact z_iret dX12_told_126 rfl (by cases hf; rfl)
              · refine z_iload_n 1 dX12_told_109 rfl rfl ?_
                refine z_bipush (7 : Int32) dX12_told_110 (by decide) ?_
                refine z_icmp_ne 122 dX12_told_112 (by decide) hf (fun hf => ?_) (fun hf => ?_)
                · refine z_aload_n 0 dX12_told_115 rfl rfl ?_
                  refine z_getI dX12_told_116 zc12 (by decide) wf_X12_49 hf fun x2 hf => ?_
                  refine z_goto 126 dX12_told_119 (by decide) ?_
                  exact z_iret dX12_told_126 rfl (by cases hf; rfl)
                · refine z_aload_n 0 dX12_told_122 rfl rfl ?_
                  refine z_getI dX12_told_123 zc12 (by decide) wf_X12_52 hf fun x1 hf => ?_
                  exact z_iret dX12_told_126 rfl (by cases hf; rfl)
set_option maxRecDepth 4000 in
theorem zl_L_number_10 {Γ : zG} {N d : Nat} {h0 : zH} (hd : 10 ≤ d) {v2 : Nat} {v3 : Int32}  {w : Int32 × zH}   : ∀ (n : Nat) (v1 : Int32) (v4 : Int32) (h : zH), f_L_number_l10 N v2 v3 n v1 v4 h = some w → Z Γ m_L_number d h0 (zoI w) 10 [(1, .int v1), (2, .ref v2), (3, .int v3), (4, .int v4)] [] h := by
  intro n
  induction n with
  | zero => intro v1 v4 h hf; cases hf
  | succ n ih =>
    intro v1 v4 h hf
    rw [f_L_number_l10] at hf
    refine z_iload 3 dL_number_10 rfl ?_
    refine z_iload_n 2 dL_number_12 rfl rfl ?_
    refine z_icmp_ge 38 dL_number_13 (by decide) hf (fun hf => ?_) (fun hf => ?_)
    · refine z_iload_n 0 dL_number_38 rfl rfl ?_
      exact z_iret dL_number_39 rfl (by cases hf; rfl)
    · refine z_aload_n 1 dL_number_16 rfl rfl ?_
      refine z_iload 3 dL_number_17 rfl ?_
      refine z_iaload dL_number_19 hf fun x2 hf => ?_
      refine z_istore [(5, .int x2), (1, .int v1), (2, .ref v2), (3, .int v3), (4, .int v4)] dL_number_20 (by decide) rfl ?_
      refine z_bipush (10 : Int32) dL_number_22 (by decide) ?_
      refine z_iload_n 1 dL_number_24 rfl rfl ?_
      refine z_imul dL_number_25 ?_
      refine z_iload 0 dL_number_26 rfl ?_
      refine z_iadd dL_number_28 ?_
      refine z_iconst (1 : Int32) dL_number_29 (by decide) ?_
      refine z_iadd dL_number_30 ?_
      refine z_istore_n [(1, .int ((((10 : Int32) * v1) + x2) + (1 : Int32))), (5, .int x2), (2, .ref v2), (3, .int v3), (4, .int v4)] dL_number_31 rfl (by decide) rfl ?_
      refine z_iinc (v4 + (1 : Int32)) 4 [(4, .int (v4 + (1 : Int32))), (1, .int ((((10 : Int32) * v1) + x2) + (1 : Int32))), (5, .int x2), (2, .ref v2), (3, .int v3)] dL_number_32 rfl rfl (by decide) rfl ?_
      refine z_goto 10 dL_number_35 (by decide) ?_
      exact Z.sub [1, 3, 4, 0] rfl (ih ((((10 : Int32) * v1) + x2) + (1 : Int32)) (v4 + (1 : Int32)) h hf)
set_option maxRecDepth 4000 in
theorem zc_L_number {Γ : zG} {N d : Nat} (hd : 10 ≤ d) {p1 : Nat} {h : zH} {w : Int32 × zH} (hf : f_L_number N p1 h = some w) : Zm Γ m_L_number d [.ref p1] h (zoI w) := by
  unfold f_L_number at hf
  refine z_meth rfl (plainFor_of_name wpl_L) (by simp [lg_sl, Value.category, zml, m_L_number]) ?_
  refine z_iconst (0 : Int32) dL_number_0 (by decide) ?_
  refine z_istore_n [(1, .int (0 : Int32)), (0, .ref p1)] dL_number_1 rfl (by decide) rfl ?_
  refine z_aload_n 1 dL_number_2 rfl rfl ?_
  refine z_astore_n [(2, .ref p1), (1, .int (0 : Int32)), (0, .ref p1)] dL_number_3 rfl (by decide) rfl ?_
  refine z_aload_n 0 dL_number_4 rfl rfl ?_
  refine z_alen dL_number_5 hf fun x1 hf => ?_
  refine z_istore_n [(3, .int x1), (2, .ref p1), (1, .int (0 : Int32)), (0, .ref p1)] dL_number_6 rfl (by decide) rfl ?_
  refine z_iconst (0 : Int32) dL_number_7 (by decide) ?_
  refine z_istore [(4, .int (0 : Int32)), (3, .int x1), (2, .ref p1), (1, .int (0 : Int32)), (0, .ref p1)] dL_number_8 (by decide) rfl ?_
  refine Z.sub [3, 2, 1, 0] rfl (zl_L_number_10 hd  N (0 : Int32) (0 : Int32) h hf)
set_option maxRecDepth 4000 in
theorem zl_L_isNeutral_4 {Γ : zG} {N d : Nat} {h0 : zH} (hd : 10 ≤ d) {v0 : Nat}  {w : Int32 × zH}   : ∀ (n : Nat) (v1 : Int32) (v2 : Int32) (h : zH), f_L_isNeutral_l4 N v0 n v1 v2 h = some w → Z Γ m_L_isNeutral d h0 (zoI w) 4 [(0, .ref v0), (1, .int v1), (2, .int v2)] [] h := by
  intro n
  induction n with
  | zero => intro v1 v2 h hf; cases hf
  | succ n ih =>
    intro v1 v2 h hf
    rw [f_L_isNeutral_l4] at hf
    refine z_iload_n 2 dL_isNeutral_4 rfl rfl ?_
    refine z_aload_n 0 dL_isNeutral_5 rfl rfl ?_
    refine z_alen dL_isNeutral_6 hf fun x1 hf => ?_
    refine z_icmp_ge 31 dL_isNeutral_7 (by decide) hf (fun hf => ?_) (fun hf => ?_)
    · refine z_iload_n 1 dL_isNeutral_31 rfl rfl ?_
      obtain ⟨x2, hz, hf⟩ := Option.bind_eq_some_iff.mp hf
      obtain ⟨hb, rfl⟩ := zB_of hz
      exact z_zret dL_isNeutral_32 rfl hb (by cases hf; rfl)
    · refine z_iload_n 1 dL_isNeutral_10 rfl rfl ?_
      refine z_aload_n 0 dL_isNeutral_11 rfl rfl ?_
      refine z_iload_n 2 dL_isNeutral_12 rfl rfl ?_
      refine z_iaload dL_isNeutral_13 hf fun x3 hf => ?_
      refine z_iload_n 2 dL_isNeutral_14 rfl rfl ?_
      refine zjn_elim (P := fun (j23 : Int32 → Int32 → Int32 → zH → Option (Int32 × zH)) => ∀ (v2 : Int32) (s0 : Int32) (s1 : Int32) (h : zH), j23 v2 s0 s1 h = some w → Z Γ m_L_isNeutral d h0 (zoI w) 23 [(0, .ref v0), (2, .int v2)] [.int s1, .int s0] h) hf (fun v2 s0 s1 h hf => ?_) (fun j23 hj23 hf => ?_)
      · refine z_iand dL_isNeutral_23 ?_
        refine z_istore_n [(1, .int (s0 &&& s1)), (0, .ref v0), (2, .int v2)] dL_isNeutral_24 rfl (by decide) rfl ?_
        refine z_iinc (v2 + (1 : Int32)) 2 [(2, .int (v2 + (1 : Int32))), (1, .int (s0 &&& s1)), (0, .ref v0)] dL_isNeutral_25 rfl rfl (by decide) rfl ?_
        refine z_goto 4 dL_isNeutral_28 (by decide) ?_
        exact Z.sub [2, 1, 0] rfl (ih (s0 &&& s1) (v2 + (1 : Int32)) h hf)
      · refine z_icmp_ne 22 dL_isNeutral_15 (by decide) hf (fun hf => ?_) (fun hf => ?_)
        · refine z_iconst (1 : Int32) dL_isNeutral_18 (by decide) ?_
          refine z_goto 23 dL_isNeutral_19 (by decide) ?_
          exact Z.sub [0, 2] rfl (hj23 v2 v1 (1 : Int32) h hf)
        · refine z_iconst (0 : Int32) dL_isNeutral_22 (by decide) ?_
          exact Z.sub [0, 2] rfl (hj23 v2 v1 (0 : Int32) h hf)
set_option maxRecDepth 4000 in
theorem zc_L_isNeutral {Γ : zG} {N d : Nat} (hd : 10 ≤ d) {p1 : Nat} {h : zH} {w : Int32 × zH} (hf : f_L_isNeutral N p1 h = some w) : Zm Γ m_L_isNeutral d [.ref p1] h (zoI w) := by
  unfold f_L_isNeutral at hf
  refine z_meth rfl (plainFor_of_name wpl_L) (by simp [lg_sl, Value.category, zml, m_L_isNeutral]) ?_
  refine z_iconst (1 : Int32) dL_isNeutral_0 (by decide) ?_
  refine z_istore_n [(1, .int (1 : Int32)), (0, .ref p1)] dL_isNeutral_1 rfl (by decide) rfl ?_
  refine z_iconst (0 : Int32) dL_isNeutral_2 (by decide) ?_
  refine z_istore_n [(2, .int (0 : Int32)), (1, .int (1 : Int32)), (0, .ref p1)] dL_isNeutral_3 rfl (by decide) rfl ?_
  refine Z.sub [2, 1, 0] rfl (zl_L_isNeutral_4 hd  N (1 : Int32) (0 : Int32) h hf)
set_option maxRecDepth 4000 in
theorem zl_L_times_7 {Γ : zG} {N d : Nat} {h0 : zH} (hd : 10 ≤ d) {v0 : Nat} {v1 : Nat} {v2 : Nat}  {w : Nat × zH}   : ∀ (n : Nat) (v3 : Int32) (h : zH), f_L_times_l7 N v0 v1 v2 n v3 h = some w → Z Γ m_L_times d h0 (zoA w) 7 [(0, .ref v0), (1, .ref v1), (2, .ref v2), (3, .int v3)] [] h := by
  intro n
  induction n with
  | zero => intro v3 h hf; cases hf
  | succ n ih =>
    intro v3 h hf
    rw [f_L_times_l7] at hf
    refine z_iload_n 3 dL_times_7 rfl rfl ?_
    refine z_aload_n 0 dL_times_8 rfl rfl ?_
    refine z_alen dL_times_9 hf fun x3 hf => ?_
    refine z_icmp_ge 27 dL_times_10 (by decide) hf (fun hf => ?_) (fun hf => ?_)
    · refine z_aload_n 2 dL_times_27 rfl rfl ?_
      exact z_aret dL_times_28 rfl (Or.inr ⟨_, rfl⟩) (Or.inr ⟨_, rfl⟩) (by cases hf; rfl)
    · refine z_aload_n 2 dL_times_13 rfl rfl ?_
      refine z_iload_n 3 dL_times_14 rfl rfl ?_
      refine z_aload_n 1 dL_times_15 rfl rfl ?_
      refine z_aload_n 0 dL_times_16 rfl rfl ?_
      refine z_iload_n 3 dL_times_17 rfl rfl ?_
      refine z_iaload dL_times_18 hf fun x4 hf => ?_
      refine z_iaload dL_times_19 hf fun x5 hf => ?_
      refine z_iastore dL_times_20 hf fun h6 hf => ?_
      refine z_iinc (v3 + (1 : Int32)) 3 [(3, .int (v3 + (1 : Int32))), (0, .ref v0), (1, .ref v1), (2, .ref v2)] dL_times_21 rfl rfl (by decide) rfl ?_
      refine z_goto 7 dL_times_24 (by decide) ?_
      exact Z.sub [1, 2, 3, 0] rfl (ih (v3 + (1 : Int32)) h6 hf)
set_option maxRecDepth 4000 in
theorem zc_L_times {Γ : zG} {N d : Nat} (hd : 10 ≤ d) {p1 : Nat} {p2 : Nat} {h : zH} {w : Nat × zH} (hf : f_L_times N p1 p2 h = some w) : Zm Γ m_L_times d [.ref p1, .ref p2] h (zoA w) := by
  unfold f_L_times at hf
  refine z_meth rfl (plainFor_of_name wpl_L) (by simp [lg_sl, Value.category, zml, m_L_times]) ?_
  refine z_aload_n 0 dL_times_0 rfl rfl ?_
  refine z_alen dL_times_1 hf fun x1 hf => ?_
  refine z_nwI dL_times_2 wa_I hf fun y2 hf => ?_
  refine z_astore_n [(2, .ref y2.1), (0, .ref p1), (1, .ref p2)] dL_times_4 rfl (by decide) rfl ?_
  refine z_iconst (0 : Int32) dL_times_5 (by decide) ?_
  refine z_istore_n [(3, .int (0 : Int32)), (2, .ref y2.1), (0, .ref p1), (1, .ref p2)] dL_times_6 rfl (by decide) rfl ?_
  refine Z.sub [2, 3, 1, 0] rfl (zl_L_times_7 hd  N (0 : Int32) y2.2 hf)
set_option maxRecDepth 4000 in
theorem zl_L_orderOf_4 {Γ : zG} {N d : Nat} {h0 : zH} (hd : 11 ≤ d) {v0 : Nat}  {w : Int32 × zH}   : ∀ (n : Nat) (v1 : Int32) (v2 : Nat) (h : zH), f_L_orderOf_l4 N v0 n v1 v2 h = some w → Z Γ m_L_orderOf d h0 (zoI w) 4 [(0, .ref v0), (1, .int v1), (2, .ref v2)] [] h := by
  intro n
  induction n with
  | zero => intro v1 v2 h hf; cases hf
  | succ n ih =>
    intro v1 v2 h hf
    rw [f_L_orderOf_l4] at hf
    refine z_aload_n 2 dL_orderOf_4 rfl rfl ?_
    refine z_cS_i (d' := d - 1) (As := [.ref v2]) (rest := []) dL_orderOf_5 lk_L_112 hf (fun w1 e1 => zc_L_isNeutral (by omega) e1) (by omega) rfl rfl (Nat.le_of_ble_eq_true rfl) fun y1 hf => ?_
    refine z_if_ne 23 dL_orderOf_8 (by decide) hf (fun hf => ?_) (fun hf => ?_)
    · refine z_aload_n 2 dL_orderOf_11 rfl rfl ?_
      refine z_aload_n 0 dL_orderOf_12 rfl rfl ?_
      refine z_cS_a (d' := d - 1) (As := [.ref v2, .ref v0]) (rest := []) dL_orderOf_13 lk_L_116 hf (fun w1 e1 => zc_L_times (by omega) e1) (by omega) rfl rfl (Nat.le_of_ble_eq_true rfl) fun y2 hf => ?_
      refine z_astore_n [(2, .ref y2.1), (0, .ref v0), (1, .int v1)] dL_orderOf_16 rfl (by decide) rfl ?_
      refine z_iinc (v1 + (1 : Int32)) 2 [(1, .int (v1 + (1 : Int32))), (2, .ref y2.1), (0, .ref v0)] dL_orderOf_17 rfl rfl (by decide) rfl ?_
      refine z_goto 4 dL_orderOf_20 (by decide) ?_
      exact Z.sub [2, 0, 1] rfl (ih (v1 + (1 : Int32)) y2.1 y2.2 hf)
    · refine z_iload_n 1 dL_orderOf_23 rfl rfl ?_
      exact z_iret dL_orderOf_24 rfl (by cases hf; rfl)
set_option maxRecDepth 4000 in
theorem zc_L_orderOf {Γ : zG} {N d : Nat} (hd : 11 ≤ d) {p1 : Nat} {h : zH} {w : Int32 × zH} (hf : f_L_orderOf N p1 h = some w) : Zm Γ m_L_orderOf d [.ref p1] h (zoI w) := by
  unfold f_L_orderOf at hf
  refine z_meth rfl (plainFor_of_name wpl_L) (by simp [lg_sl, Value.category, zml, m_L_orderOf]) ?_
  refine z_iconst (1 : Int32) dL_orderOf_0 (by decide) ?_
  refine z_istore_n [(1, .int (1 : Int32)), (0, .ref p1)] dL_orderOf_1 rfl (by decide) rfl ?_
  refine z_aload_n 1 dL_orderOf_2 rfl rfl ?_
  refine z_astore_n [(2, .ref p1), (1, .int (1 : Int32)), (0, .ref p1)] dL_orderOf_3 rfl (by decide) rfl ?_
  refine Z.sub [2, 1, 0] rfl (zl_L_orderOf_4 hd  N (1 : Int32) p1 h hf)
set_option maxRecDepth 4000 in
theorem zj_X10_value_109 {Γ : zG} {N d : Nat} {h0 : zH} {rs : Nat → Nat → zH → Option (Int64 × zH)} {dr : Nat} (hrs : ∀ (a : Nat) (p1 : Nat) (h : zH) (w : Int64 × zH), rs a p1 h = some w → Zm Γ m_X10_value dr [.ref a, .ref p1] h (zoJ w)) (hd : 11 ≤ d ∧ dr + 1 ≤ d)  {s0 : Int64} {h : zH} {w : Int64 × zH} (hf : f_X10_value_j109 N rs  s0 h = some w) : Z Γ m_X10_value d h0 (zoJ w) 109 [] [.long s0] h := by
  unfold f_X10_value_j109 at hf
  refine z_lstore [(6, .long s0)] dX10_value_109 (by decide) rfl ?_
  refine z_ldc2 (-1000000 : Int64) dX10_value_111 wk_X10_76 ?_
  refine z_ldc2 (1000000 : Int64) dX10_value_114 wk_X10_78 ?_
  refine z_lload 0 dX10_value_117 rfl ?_
  refine z_cS_j (d' := d - 1) (As := [.long (1000000 : Int64), .long s0]) (rest := [.long (-1000000 : Int64)]) dX10_value_119 lk_X10_80 hf (fun w1 e1 => zc_J9_min_f86c9 (by omega) e1) (by omega) rfl rfl (Nat.le_of_ble_eq_true rfl) fun y10 hf => ?_
  refine z_cS_j (d' := d - 1) (As := [.long (-1000000 : Int64), .long y10.1]) (rest := []) dX10_value_122 lk_X10_86 hf (fun w1 e1 => zc_J9_max_f86c9 (by omega) e1) (by omega) rfl rfl (Nat.le_of_ble_eq_true rfl) fun y11 hf => ?_
  exact z_lret dX10_value_125 rfl (by cases hf; rfl)
set_option maxRecDepth 4000 in
theorem zc_X10_value {Γ : zG} {N d : Nat} {rs : Nat → Nat → zH → Option (Int64 × zH)} {dr : Nat} (hrs : ∀ (a : Nat) (p1 : Nat) (h : zH) (w : Int64 × zH), rs a p1 h = some w → Zm Γ m_X10_value dr [.ref a, .ref p1] h (zoJ w)) (hd : 11 ≤ d ∧ dr + 1 ≤ d) {a : Nat} {p1 : Nat} {h : zH} {w : Int64 × zH} (hf : f_X10_value N rs a p1 h = some w) : Zm Γ m_X10_value d [.ref a, .ref p1] h (zoJ w) := by
  unfold f_X10_value at hf
  refine z_meth rfl (plainFor_of_name wpl_X10) (by simp [lg_sl, Value.category, zml, m_X10_value]) ?_
  refine z_aload_n 0 dX10_value_0 rfl rfl ?_
  refine z_getI dX10_value_1 zc10 (by decide) wf_X10_16 hf fun x1 hf => ?_
  refine z_iconst (2 : Int32) dX10_value_4 (by decide) ?_
  refine z_icmp_ge 30 dX10_value_5 (by decide) hf (fun hf => ?_) (fun hf => ?_)
  · refine z_aload_n 0 dX10_value_30 rfl rfl ?_
    refine z_getA dX10_value_31 zc10 (by decide) wf_X10_27 hf fun x2 hf => ?_
    refine z_aload_n 1 dX10_value_34 rfl rfl ?_
    refine z_cV_j (d' := dr) (As := [.ref p1]) (rest := []) dX10_value_35 lk_X10_72 rfl hf (fun w1 e1 => hrs _ _ _ _ e1) (by omega) rfl rfl (Nat.le_of_ble_eq_true rfl) fun y3 hf => ?_
    refine z_lstore_n [(2, .long y3.1), (0, .ref a), (1, .ref p1)] dX10_value_38 rfl (by decide) rfl ?_
    refine z_aload_n 1 dX10_value_39 rfl rfl ?_
    refine z_getA dX10_value_40 zc10 (by decide) wf_X10_31 hf fun x4 hf => ?_
    refine z_aload_n 2 dX10_value_43 rfl rfl ?_
    refine z_cV_j (d' := dr) (As := [.ref p1]) (rest := []) dX10_value_44 lk_X10_72 rfl hf (fun w1 e1 => hrs _ _ _ _ e1) (by omega) rfl rfl (Nat.le_of_ble_eq_true rfl) fun y5 hf => ?_
    refine z_lstore [(4, .long y5.1), (2, .long y3.1), (0, .ref a), (1, .ref p1)] dX10_value_47 (by decide) rfl ?_
    refine z_aload_n 2 dX10_value_49 rfl rfl ?_
    refine z_getI dX10_value_50 zc10 (by decide) wf_X10_16 hf fun x6 hf => ?_
    refine z_iconst (2 : Int32) dX10_value_53 (by decide) ?_
    refine z_icmp_ne 64 dX10_value_54 (by decide) hf (fun hf => ?_) (fun hf => ?_)
    · refine z_lload_n 1 dX10_value_57 rfl rfl ?_
      refine z_lload 0 dX10_value_58 rfl ?_
      refine z_ladd dX10_value_60 ?_
      refine z_goto 109 dX10_value_61 (by decide) ?_
      exact Z.sub [] rfl (zj_X10_value_109 hrs hd hf)
    · refine z_aload_n 2 dX10_value_64 rfl rfl ?_
      refine z_getI dX10_value_65 zc10 (by decide) wf_X10_16 hf fun x7 hf => ?_
      refine z_iconst (3 : Int32) dX10_value_68 (by decide) ?_
      refine z_icmp_ne 79 dX10_value_69 (by decide) hf (fun hf => ?_) (fun hf => ?_)
      · refine z_lload_n 1 dX10_value_72 rfl rfl ?_
        refine z_lload 0 dX10_value_73 rfl ?_
        refine z_lsub dX10_value_75 ?_
        refine z_goto 109 dX10_value_76 (by decide) ?_
        exact Z.sub [] rfl (zj_X10_value_109 hrs hd hf)
      · refine z_aload_n 2 dX10_value_79 rfl rfl ?_
        refine z_getI dX10_value_80 zc10 (by decide) wf_X10_16 hf fun x8 hf => ?_
        refine z_iconst (4 : Int32) dX10_value_83 (by decide) ?_
        refine z_icmp_ne 94 dX10_value_84 (by decide) hf (fun hf => ?_) (fun hf => ?_)
        · refine z_lload_n 1 dX10_value_87 rfl rfl ?_
          refine z_lload 0 dX10_value_88 rfl ?_
          refine z_lmul dX10_value_90 ?_
          refine z_goto 109 dX10_value_91 (by decide) ?_
          exact Z.sub [] rfl (zj_X10_value_109 hrs hd hf)
        · refine z_lload 0 dX10_value_94 rfl ?_
          refine z_lconst (0 : Int64) dX10_value_96 (by decide) ?_
          refine z_lcmp dX10_value_97 ?_
          refine z_if_ne 105 dX10_value_98 (by decide) hf (fun hf => ?_) (fun hf => ?_)
          · refine z_lconst (0 : Int64) dX10_value_101 (by decide) ?_
            refine z_goto 109 dX10_value_102 (by decide) ?_
            exact Z.sub [] rfl (zj_X10_value_109 hrs hd hf)
          · refine z_lload_n 1 dX10_value_105 rfl rfl ?_
            refine z_lload 0 dX10_value_106 rfl ?_
            refine z_ldiv dX10_value_108 hf fun x9 hf => ?_
            exact Z.sub [] rfl (zj_X10_value_109 hrs hd hf)
  · refine z_aload_n 0 dX10_value_8 rfl rfl ?_
    refine z_getI dX10_value_9 zc10 (by decide) wf_X10_16 hf fun x12 hf => ?_
    refine z_if_ne 23 dX10_value_12 (by decide) hf (fun hf => ?_) (fun hf => ?_)
    · refine z_aload_n 0 dX10_value_15 rfl rfl ?_
      refine z_getI dX10_value_16 zc10 (by decide) wf_X10_20 hf fun x15 hf => ?_
      refine z_i2l dX10_value_19 ?_
      refine z_goto 29 dX10_value_20 (by decide) ?_
      exact z_lret dX10_value_29 rfl (by cases hf; rfl)
    · refine z_aload_n 1 dX10_value_23 rfl rfl ?_
      refine z_aload_n 0 dX10_value_24 rfl rfl ?_
      refine z_getI dX10_value_25 zc10 (by decide) wf_X10_20 hf fun x13 hf => ?_
      refine z_laload dX10_value_28 hf fun x14 hf => ?_
      exact z_lret dX10_value_29 rfl (by cases hf; rfl)
theorem zc_X10_valueN {Γ : zG} {N n d : Nat} (hd : 60 + 4 * n ≤ d) {a : Nat} {p1 : Nat} {h : zH} {w : Int64 × zH} (hf : f_X10_valueN N n a p1 h = some w) : Zm Γ m_X10_value d [.ref a, .ref p1] h (zoJ w) := by
  induction n generalizing d a p1 h w with
  | zero => cases hf
  | succ n ih =>
    rw [f_X10_valueN] at hf
    exact zc_X10_value (dr := d - 4) (fun a p1 h w e => ih (by omega) e) ⟨by omega, by omega⟩ hf
set_option maxRecDepth 4000 in
theorem zj_X12_price_61 {Γ : zG} {N d : Nat} {h0 : zH} (hd : 101 ≤ d)  {s0 : Int64} {h : zH} {w : Int32 × zH} (hf : f_X12_price_j61 N  s0 h = some w) : Z Γ m_X12_price d h0 (zoI w) 61 [] [.long s0] h := by
  unfold f_X12_price_j61 at hf
  refine z_lstore_n [(2, .long s0)] dX12_price_61 rfl (by decide) rfl ?_
  refine z_lconst (0 : Int64) dX12_price_62 (by decide) ?_
  refine z_ldc2 (9999 : Int64) dX12_price_63 wk_X12_85 ?_
  refine z_lload_n 0 dX12_price_66 rfl rfl ?_
  refine z_cS_j (d' := d - 1) (As := [.long (9999 : Int64), .long s0]) (rest := [.long (0 : Int64)]) dX12_price_67 lk_X12_87 hf (fun w1 e1 => zc_J9_min_f86c9 (by omega) e1) (by omega) rfl rfl (Nat.le_of_ble_eq_true rfl) fun y3 hf => ?_
  refine z_cS_j (d' := d - 1) (As := [.long (0 : Int64), .long y3.1]) (rest := []) dX12_price_70 lk_X12_93 hf (fun w1 e1 => zc_J9_max_f86c9 (by omega) e1) (by omega) rfl rfl (Nat.le_of_ble_eq_true rfl) fun y4 hf => ?_
  refine z_l2i dX12_price_73 ?_
  exact z_iret dX12_price_74 rfl (by cases hf; rfl)
set_option maxRecDepth 4000 in
theorem zc_X12_price {Γ : zG} {N d : Nat} (hd : 101 ≤ d) {a : Nat} {p1 : Nat} {h : zH} {w : Int32 × zH} (hf : f_X12_price N a p1 h = some w) : Zm Γ m_X12_price d [.ref a, .ref p1] h (zoI w) := by
  unfold f_X12_price at hf
  refine z_meth rfl (plainFor_of_name wpl_X12) (by simp [lg_sl, Value.category, zml, m_X12_price]) ?_
  refine z_aload_n 0 dX12_price_0 rfl rfl ?_
  refine z_getO dX12_price_1 zc12 (by decide) wf_X12_55 hf (fun hf => ?_) (fun x1 hf => ?_)
  · refine z_ifnonnullN dX12_price_4 ?_
    refine z_aload_n 1 dX12_price_7 rfl rfl ?_
    refine z_getI dX12_price_8 zc9 (by decide) wf_X12_72 hf fun x2 hf => ?_
    refine z_i2l dX12_price_11 ?_
    refine z_goto 61 dX12_price_12 (by decide) ?_
    exact Z.sub [] rfl (zj_X12_price_61 hd hf)
  · refine z_ifnonnull 15 dX12_price_4 (by decide) ?_
    refine z_aload_n 0 dX12_price_15 rfl rfl ?_
    refine z_getO dX12_price_16 zc12 (by decide) wf_X12_55 hf (fun hf => ?_) (fun x5 hf => ?_)
    · refine z_iconst (4 : Int32) dX12_price_19 (by decide) ?_
      refine z_nwJ dX12_price_20 wa_J hf fun y6 hf => ?_
      refine z_dup dX12_price_22 rfl ?_
      refine z_iconst (0 : Int32) dX12_price_23 (by decide) ?_
      refine z_aload_n 1 dX12_price_24 rfl rfl ?_
      refine z_getI dX12_price_25 zc9 (by decide) wf_X12_72 hf fun x7 hf => ?_
      refine z_i2l dX12_price_28 ?_
      refine z_lastore dX12_price_29 hf fun h8 hf => ?_
      refine z_dup dX12_price_30 rfl ?_
      refine z_iconst (1 : Int32) dX12_price_31 (by decide) ?_
      refine z_aload_n 1 dX12_price_32 rfl rfl ?_
      refine z_getA dX12_price_33 zc9 (by decide) wf_X12_65 hf fun x9 hf => ?_
      refine z_cSN_i (d' := d - 1) (As := [.ref x9]) (rest := [.int (1 : Int32), .ref y6.1, .ref y6.1, .null]) dX12_price_36 lk_X12_75 hf (fun w1 e1 => zc_L_orderOf (by omega) e1) (by omega) rfl rfl (Nat.le_of_ble_eq_true rfl) fun y10 hf => ?_
      refine z_i2l dX12_price_39 ?_
      refine z_lastore dX12_price_40 hf fun h11 hf => ?_
      refine z_dup dX12_price_41 rfl ?_
      refine z_iconst (2 : Int32) dX12_price_42 (by decide) ?_
      refine z_aload_n 0 dX12_price_43 rfl rfl ?_
      refine z_getA dX12_price_44 zc12 (by decide) wf_X12_31 hf fun x12 hf => ?_
      refine z_alen dX12_price_47 hf fun x13 hf => ?_
      refine z_i2l dX12_price_48 ?_
      refine z_lastore dX12_price_49 hf fun h14 hf => ?_
      refine z_dup dX12_price_50 rfl ?_
      refine z_iconst (3 : Int32) dX12_price_51 (by decide) ?_
      refine z_aload_n 0 dX12_price_52 rfl rfl ?_
      refine z_getI dX12_price_53 zc12 (by decide) wf_X12_46 hf fun x15 hf => ?_
      refine z_i2l dX12_price_56 ?_
      refine z_lastore dX12_price_57 hf fun h16 hf => ?_
      cases hf
    · refine z_iconst (4 : Int32) dX12_price_19 (by decide) ?_
      refine z_nwJ dX12_price_20 wa_J hf fun y18 hf => ?_
      refine z_dup dX12_price_22 rfl ?_
      refine z_iconst (0 : Int32) dX12_price_23 (by decide) ?_
      refine z_aload_n 1 dX12_price_24 rfl rfl ?_
      refine z_getI dX12_price_25 zc9 (by decide) wf_X12_72 hf fun x19 hf => ?_
      refine z_i2l dX12_price_28 ?_
      refine z_lastore dX12_price_29 hf fun h20 hf => ?_
      refine z_dup dX12_price_30 rfl ?_
      refine z_iconst (1 : Int32) dX12_price_31 (by decide) ?_
      refine z_aload_n 1 dX12_price_32 rfl rfl ?_
      refine z_getA dX12_price_33 zc9 (by decide) wf_X12_65 hf fun x21 hf => ?_
      refine z_cSN_i (d' := d - 1) (As := [.ref x21]) (rest := [.int (1 : Int32), .ref y18.1, .ref y18.1, .ref x5]) dX12_price_36 lk_X12_75 hf (fun w1 e1 => zc_L_orderOf (by omega) e1) (by omega) rfl rfl (Nat.le_of_ble_eq_true rfl) fun y22 hf => ?_
      refine z_i2l dX12_price_39 ?_
      refine z_lastore dX12_price_40 hf fun h23 hf => ?_
      refine z_dup dX12_price_41 rfl ?_
      refine z_iconst (2 : Int32) dX12_price_42 (by decide) ?_
      refine z_aload_n 0 dX12_price_43 rfl rfl ?_
      refine z_getA dX12_price_44 zc12 (by decide) wf_X12_31 hf fun x24 hf => ?_
      refine z_alen dX12_price_47 hf fun x25 hf => ?_
      refine z_i2l dX12_price_48 ?_
      refine z_lastore dX12_price_49 hf fun h26 hf => ?_
      refine z_dup dX12_price_50 rfl ?_
      refine z_iconst (3 : Int32) dX12_price_51 (by decide) ?_
      refine z_aload_n 0 dX12_price_52 rfl rfl ?_
      refine z_getI dX12_price_53 zc12 (by decide) wf_X12_46 hf fun x27 hf => ?_
      refine z_i2l dX12_price_56 ?_
      refine z_lastore dX12_price_57 hf fun h28 hf => ?_
      refine z_cV_j (d' := d - 1) (As := [.ref y18.1]) (rest := []) dX12_price_58 lk_X12_79 rfl hf (fun w1 e1 => zc_X10_valueN (by omega) e1) (by omega) rfl rfl (Nat.le_of_ble_eq_true rfl) fun y29 hf => ?_
      exact Z.sub [] rfl (zj_X12_price_61 hd hf)
set_option maxRecDepth 4000 in
theorem zl_L_neutral_6 {Γ : zG} {N d : Nat} {h0 : zH} (hd : 10 ≤ d) {v0 : Int32} {v1 : Nat}  {w : Nat × zH}   : ∀ (n : Nat) (v2 : Int32) (h : zH), f_L_neutral_l6 N v0 v1 n v2 h = some w → Z Γ m_L_neutral d h0 (zoA w) 6 [(0, .int v0), (1, .ref v1), (2, .int v2)] [] h := by
  intro n
  induction n with
  | zero => intro v2 h hf; cases hf
  | succ n ih =>
    intro v2 h hf
    rw [f_L_neutral_l6] at hf
    refine z_iload_n 2 dL_neutral_6 rfl rfl ?_
    refine z_iload_n 0 dL_neutral_7 rfl rfl ?_
    refine z_icmp_ge 21 dL_neutral_8 (by decide) hf (fun hf => ?_) (fun hf => ?_)
    · refine z_aload_n 1 dL_neutral_21 rfl rfl ?_
      exact z_aret dL_neutral_22 rfl (Or.inr ⟨_, rfl⟩) (Or.inr ⟨_, rfl⟩) (by cases hf; rfl)
    · refine z_aload_n 1 dL_neutral_11 rfl rfl ?_
      refine z_iload_n 2 dL_neutral_12 rfl rfl ?_
      refine z_iload_n 2 dL_neutral_13 rfl rfl ?_
      refine z_iastore dL_neutral_14 hf fun h2 hf => ?_
      refine z_iinc (v2 + (1 : Int32)) 2 [(2, .int (v2 + (1 : Int32))), (0, .int v0), (1, .ref v1)] dL_neutral_15 rfl rfl (by decide) rfl ?_
      refine z_goto 6 dL_neutral_18 (by decide) ?_
      exact Z.sub [1, 2, 0] rfl (ih (v2 + (1 : Int32)) h2 hf)
set_option maxRecDepth 4000 in
theorem zc_L_neutral {Γ : zG} {N d : Nat} (hd : 10 ≤ d) {p1 : Int32} {h : zH} {w : Nat × zH} (hf : f_L_neutral N p1 h = some w) : Zm Γ m_L_neutral d [.int p1] h (zoA w) := by
  unfold f_L_neutral at hf
  refine z_meth rfl (plainFor_of_name wpl_L) (by simp [lg_sl, Value.category, zml, m_L_neutral]) ?_
  refine z_iload_n 0 dL_neutral_0 rfl rfl ?_
  refine z_nwI dL_neutral_1 wa_I hf fun y1 hf => ?_
  refine z_astore_n [(1, .ref y1.1), (0, .int p1)] dL_neutral_3 rfl (by decide) rfl ?_
  refine z_iconst (0 : Int32) dL_neutral_4 (by decide) ?_
  refine z_istore_n [(2, .int (0 : Int32)), (1, .ref y1.1), (0, .int p1)] dL_neutral_5 rfl (by decide) rfl ?_
  refine Z.sub [2, 1, 0] rfl (zl_L_neutral_6 hd  N (0 : Int32) y1.2 hf)
set_option maxRecDepth 4000 in
theorem zl_X12_product_11 {Γ : zG} {N d : Nat} {h0 : zH} (hd : 11 ≤ d) {v0 : Nat} {v2 : Int32}  {w : Nat × zH}   : ∀ (n : Nat) (v3 : Nat) (v4 : Int32) (h : zH), f_X12_product_l11 N v0 v2 n v3 v4 h = some w → Z Γ m_X12_product d h0 (zoA w) 11 [(0, .ref v0), (2, .int v2), (3, .ref v3), (4, .int v4)] [] h := by
  intro n
  induction n with
  | zero => intro v3 v4 h hf; cases hf
  | succ n ih =>
    intro v3 v4 h hf
    rw [f_X12_product_l11] at hf
    refine z_iload 3 dX12_product_11 rfl ?_
    refine z_iload_n 1 dX12_product_13 rfl rfl ?_
    refine z_icmp_ge 38 dX12_product_14 (by decide) hf (fun hf => ?_) (fun hf => ?_)
    · refine z_aload_n 2 dX12_product_38 rfl rfl ?_
      exact z_aret dX12_product_39 rfl (Or.inr ⟨_, rfl⟩) (Or.inr ⟨_, rfl⟩) (by cases hf; rfl)
    · refine z_aload_n 2 dX12_product_17 rfl rfl ?_
      refine z_aload_n 0 dX12_product_18 rfl rfl ?_
      refine z_getA dX12_product_19 zc12 (by decide) wf_X12_31 hf fun x3 hf => ?_
      refine z_iload 3 dX12_product_22 rfl ?_
      refine z_aaload dX12_product_24 hf fun x4 hf => ?_
      refine z_getA dX12_product_25 zc9 (by decide) wf_X12_65 hf fun x5 hf => ?_
      refine z_cSN_a (d' := d - 1) (As := [.ref v3, .ref x5]) (rest := []) dX12_product_28 lk_X12_68 hf (fun w1 e1 => zc_L_times (by omega) e1) (by omega) rfl rfl (Nat.le_of_ble_eq_true rfl) fun y6 hf => ?_
      refine z_astore_n [(3, .ref y6.1), (0, .ref v0), (2, .int v2), (4, .int v4)] dX12_product_31 rfl (by decide) rfl ?_
      refine z_iinc (v4 + (1 : Int32)) 3 [(4, .int (v4 + (1 : Int32))), (3, .ref y6.1), (0, .ref v0), (2, .int v2)] dX12_product_32 rfl rfl (by decide) rfl ?_
      refine z_goto 11 dX12_product_35 (by decide) ?_
      exact Z.sub [2, 3, 1, 0] rfl (ih y6.1 (v4 + (1 : Int32)) y6.2 hf)
set_option maxRecDepth 4000 in
theorem zc_X12_product {Γ : zG} {N d : Nat} (hd : 11 ≤ d) {a : Nat} {p1 : Int32} {p2 : Int32} {h : zH} {w : Nat × zH} (hf : f_X12_product N a p1 p2 h = some w) : Zm Γ m_X12_product d [.ref a, .int p1, .int p2] h (zoA w) := by
  unfold f_X12_product at hf
  refine z_meth rfl (plainFor_of_name wpl_X12) (by simp [lg_sl, Value.category, zml, m_X12_product]) ?_
  refine z_aload_n 0 dX12_product_0 rfl rfl ?_
  refine z_getI dX12_product_1 zc12 (by decide) wf_X12_7 hf fun x1 hf => ?_
  refine z_cSN_a (d' := d - 1) (As := [.int x1]) (rest := []) dX12_product_4 lk_X12_59 hf (fun w1 e1 => zc_L_neutral (by omega) e1) (by omega) rfl rfl (Nat.le_of_ble_eq_true rfl) fun y2 hf => ?_
  refine z_astore_n [(3, .ref y2.1), (0, .ref a), (1, .int p1), (2, .int p2)] dX12_product_7 rfl (by decide) rfl ?_
  refine z_iload_n 2 dX12_product_8 rfl rfl ?_
  refine z_istore [(4, .int p1), (3, .ref y2.1), (0, .ref a), (1, .int p1), (2, .int p2)] dX12_product_9 (by decide) rfl ?_
  refine Z.sub [2, 4, 1, 0] rfl (zl_X12_product_11 hd  N y2.1 p1 y2.2 hf)
set_option maxRecDepth 4000 in
theorem zl_X12_sum_4 {Γ : zG} {N d : Nat} {h0 : zH} (hd : 102 ≤ d) {v0 : Nat} {k1 : Int64 → zH → Option (Int64 × zH)} {w : Int64 × zH}  (hk1 : ∀ (v1 : Int64) (h : zH), k1 v1 h = some w → Z Γ m_X12_sum d h0 (zoJ w) 29 [(0, .ref v0), (1, .long v1)] [] h) : ∀ (n : Nat) (v1 : Int64) (v3 : Int32) (h : zH), f_X12_sum_l4 N v0 k1 n v1 v3 h = some w → Z Γ m_X12_sum d h0 (zoJ w) 4 [(0, .ref v0), (1, .long v1), (3, .int v3)] [] h := by
  intro n
  induction n with
  | zero => intro v1 v3 h hf; cases hf
  | succ n ih =>
    intro v1 v3 h hf
    rw [f_X12_sum_l4] at hf
    refine z_iload_n 2 dX12_sum_4 rfl rfl ?_
    refine z_bipush (9 : Int32) dX12_sum_5 (by decide) ?_
    refine z_icmp_ge 29 dX12_sum_7 (by decide) hf (fun hf => ?_) (fun hf => ?_)
    · exact Z.sub [0, 1] rfl (hk1 v1 h hf)
    · refine z_ldc2 (31 : Int64) dX12_sum_10 wk_X12_141 ?_
      refine z_lload_n 1 dX12_sum_13 rfl rfl ?_
      refine z_lmul dX12_sum_14 ?_
      refine z_aload_n 0 dX12_sum_15 rfl rfl ?_
      refine z_iload_n 2 dX12_sum_16 rfl rfl ?_
      refine z_cV_i (d' := d - 1) (As := [.int v3]) (rest := [.long ((31 : Int64) * v1)]) dX12_sum_17 lk_X12_143 rfl hf (fun w1 e1 => zc_X12_told (by omega) e1) (by omega) rfl rfl (Nat.le_of_ble_eq_true rfl) fun y1 hf => ?_
      refine z_i2l dX12_sum_20 ?_
      refine z_ladd dX12_sum_21 ?_
      refine z_lstore_n [(1, .long (((31 : Int64) * v1) + y1.1.toInt64)), (0, .ref v0), (3, .int v3)] dX12_sum_22 rfl (by decide) rfl ?_
      refine z_iinc (v3 + (1 : Int32)) 2 [(3, .int (v3 + (1 : Int32))), (1, .long (((31 : Int64) * v1) + y1.1.toInt64)), (0, .ref v0)] dX12_sum_23 rfl rfl (by decide) rfl ?_
      refine z_goto 4 dX12_sum_26 (by decide) ?_
      exact Z.sub [2, 1, 0] rfl (ih (((31 : Int64) * v1) + y1.1.toInt64) (v3 + (1 : Int32)) y1.2 hf)
set_option maxRecDepth 4000 in
theorem zl_X12_sum_95 {Γ : zG} {N d : Nat} {h0 : zH} (hd : 102 ≤ d) {v0 : Nat} {v3 : Int32} {v4 : Nat} {v5 : Int32} {k1 : Int64 → zH → Option (Int64 × zH)} {w : Int64 × zH}  (hk1 : ∀ (v1 : Int64) (h : zH), k1 v1 h = some w → Z Γ m_X12_sum d h0 (zoJ w) 154 [(0, .ref v0), (1, .long v1), (3, .int v3)] [] h) : ∀ (n : Nat) (v1 : Int64) (v6 : Int32) (h : zH), f_X12_sum_l95 N v0 v3 v4 v5 k1 n v1 v6 h = some w → Z Γ m_X12_sum d h0 (zoJ w) 95 [(0, .ref v0), (1, .long v1), (3, .int v3), (4, .ref v4), (5, .int v5), (6, .int v6)] [] h := by
  intro n
  induction n with
  | zero => intro v1 v6 h hf; cases hf
  | succ n ih =>
    intro v1 v6 h hf
    rw [f_X12_sum_l95] at hf
    refine z_iload 5 dX12_sum_95 rfl ?_
    refine z_iload 4 dX12_sum_97 rfl ?_
    refine z_icmp_ge 154 dX12_sum_99 (by decide) hf (fun hf => ?_) (fun hf => ?_)
    · exact Z.sub [0, 1, 2] rfl (hk1 v1 h hf)
    · refine z_aload 3 dX12_sum_102 rfl ?_
      refine z_iload 5 dX12_sum_104 rfl ?_
      refine z_aaload dX12_sum_106 hf fun x16 hf => ?_
      refine z_astore [(7, .ref x16), (0, .ref v0), (1, .long v1), (3, .int v3), (4, .ref v4), (5, .int v5), (6, .int v6)] dX12_sum_107 (by decide) rfl ?_
      refine z_ldc2 (31 : Int64) dX12_sum_109 wk_X12_141 ?_
      refine z_ldc2 (31 : Int64) dX12_sum_112 wk_X12_141 ?_
      refine z_ldc2 (31 : Int64) dX12_sum_115 wk_X12_141 ?_
      refine z_lload_n 2 dX12_sum_118 rfl rfl ?_
      refine z_lmul dX12_sum_119 ?_
      refine z_aload 0 dX12_sum_120 rfl ?_
      refine z_getA dX12_sum_122 zc9 (by decide) wf_X12_65 hf fun x17 hf => ?_
      refine z_cSN_i (d' := d - 1) (As := [.ref x17]) (rest := [.long ((31 : Int64) * v1), .long (31 : Int64), .long (31 : Int64)]) dX12_sum_125 lk_X12_147 hf (fun w1 e1 => zc_L_number (by omega) e1) (by omega) rfl rfl (Nat.le_of_ble_eq_true rfl) fun y18 hf => ?_
      refine z_i2l dX12_sum_128 ?_
      refine z_ladd dX12_sum_129 ?_
      refine z_lmul dX12_sum_130 ?_
      refine z_aload 0 dX12_sum_131 rfl ?_
      refine z_getI dX12_sum_133 zc9 (by decide) wf_X12_72 hf fun x19 hf => ?_
      refine z_i2l dX12_sum_136 ?_
      refine z_ladd dX12_sum_137 ?_
      refine z_lmul dX12_sum_138 ?_
      refine z_aload_n 1 dX12_sum_139 rfl rfl ?_
      refine z_aload 0 dX12_sum_140 rfl ?_
      refine z_cV_i (d' := d - 1) (As := [.ref x16]) (rest := [.long ((31 : Int64) * (((31 : Int64) * (((31 : Int64) * v1) + y18.1.toInt64)) + x19.toInt64))]) dX12_sum_142 lk_X12_115 rfl hf (fun w1 e1 => zc_X12_price (by omega) e1) (by omega) rfl rfl (Nat.le_of_ble_eq_true rfl) fun y20 hf => ?_
      refine z_i2l dX12_sum_145 ?_
      refine z_ladd dX12_sum_146 ?_
      refine z_lstore_n [(1, .long (((31 : Int64) * (((31 : Int64) * (((31 : Int64) * v1) + y18.1.toInt64)) + x19.toInt64)) + y20.1.toInt64)), (7, .ref x16), (0, .ref v0), (3, .int v3), (4, .ref v4), (5, .int v5), (6, .int v6)] dX12_sum_147 rfl (by decide) rfl ?_
      refine z_iinc (v6 + (1 : Int32)) 6 [(6, .int (v6 + (1 : Int32))), (1, .long (((31 : Int64) * (((31 : Int64) * (((31 : Int64) * v1) + y18.1.toInt64)) + x19.toInt64)) + y20.1.toInt64)), (7, .ref x16), (0, .ref v0), (3, .int v3), (4, .ref v4), (5, .int v5)] dX12_sum_148 rfl rfl (by decide) rfl ?_
      refine z_goto 95 dX12_sum_151 (by decide) ?_
      exact Z.sub [3, 1, 4, 5, 6, 0] rfl (ih (((31 : Int64) * (((31 : Int64) * (((31 : Int64) * v1) + y18.1.toInt64)) + x19.toInt64)) + y20.1.toInt64) (v6 + (1 : Int32)) y20.2 hf)
set_option maxRecDepth 4000 in
theorem zl_X12_sum_31 {Γ : zG} {N d : Nat} {h0 : zH} (hd : 102 ≤ d) {v0 : Nat} {k1 : Int64 → zH → Option (Int64 × zH)} {w : Int64 × zH}  (hk1 : ∀ (v1 : Int64) (h : zH), k1 v1 h = some w → Z Γ m_X12_sum d h0 (zoJ w) 160 [(0, .ref v0), (1, .long v1)] [] h) : ∀ (n : Nat) (v1 : Int64) (v3 : Int32) (h : zH), f_X12_sum_l31 N v0 k1 n v1 v3 h = some w → Z Γ m_X12_sum d h0 (zoJ w) 31 [(0, .ref v0), (1, .long v1), (3, .int v3)] [] h := by
  intro n
  induction n with
  | zero => intro v1 v3 h hf; cases hf
  | succ n ih =>
    intro v1 v3 h hf
    rw [f_X12_sum_l31] at hf
    refine z_iload_n 2 dX12_sum_31 rfl rfl ?_
    refine z_aload_n 0 dX12_sum_32 rfl rfl ?_
    refine z_getA dX12_sum_33 zc12 (by decide) wf_X12_13 hf fun x4 hf => ?_
    refine z_alen dX12_sum_36 hf fun x5 hf => ?_
    refine z_icmp_ge 160 dX12_sum_37 (by decide) hf (fun hf => ?_) (fun hf => ?_)
    · exact Z.sub [0, 1] rfl (hk1 v1 h hf)
    · refine z_ldc2 (31 : Int64) dX12_sum_40 wk_X12_141 ?_
      refine z_ldc2 (31 : Int64) dX12_sum_43 wk_X12_141 ?_
      refine z_ldc2 (31 : Int64) dX12_sum_46 wk_X12_141 ?_
      refine z_lload_n 1 dX12_sum_49 rfl rfl ?_
      refine z_lmul dX12_sum_50 ?_
      refine z_aload_n 0 dX12_sum_51 rfl rfl ?_
      refine z_getA dX12_sum_52 zc12 (by decide) wf_X12_13 hf fun x6 hf => ?_
      refine z_iload_n 2 dX12_sum_55 rfl rfl ?_
      refine z_iaload dX12_sum_56 hf fun x7 hf => ?_
      refine z_i2l dX12_sum_57 ?_
      refine z_ladd dX12_sum_58 ?_
      refine z_lmul dX12_sum_59 ?_
      refine z_aload_n 0 dX12_sum_60 rfl rfl ?_
      refine z_getA dX12_sum_61 zc12 (by decide) wf_X12_22 hf fun x8 hf => ?_
      refine z_iload_n 2 dX12_sum_64 rfl rfl ?_
      refine z_aaload dX12_sum_65 hf fun x9 hf => ?_
      refine z_alen dX12_sum_66 hf fun x10 hf => ?_
      refine z_i2l dX12_sum_67 ?_
      refine z_ladd dX12_sum_68 ?_
      refine z_lmul dX12_sum_69 ?_
      refine z_aload_n 0 dX12_sum_70 rfl rfl ?_
      refine z_getA dX12_sum_71 zc12 (by decide) wf_X12_17 hf fun x11 hf => ?_
      refine z_iload_n 2 dX12_sum_74 rfl rfl ?_
      refine z_iaload dX12_sum_75 hf fun x12 hf => ?_
      refine z_i2l dX12_sum_76 ?_
      refine z_ladd dX12_sum_77 ?_
      refine z_lstore_n [(1, .long (((31 : Int64) * (((31 : Int64) * (((31 : Int64) * v1) + x7.toInt64)) + x10.toInt64)) + x12.toInt64)), (0, .ref v0), (3, .int v3)] dX12_sum_78 rfl (by decide) rfl ?_
      refine z_aload_n 1 dX12_sum_79 rfl rfl ?_
      refine z_getA dX12_sum_80 zc12 (by decide) wf_X12_22 hf fun x13 hf => ?_
      refine z_iload_n 2 dX12_sum_83 rfl rfl ?_
      refine z_aaload dX12_sum_84 hf fun x14 hf => ?_
      refine z_astore [(4, .ref x14), (1, .long (((31 : Int64) * (((31 : Int64) * (((31 : Int64) * v1) + x7.toInt64)) + x10.toInt64)) + x12.toInt64)), (0, .ref v0), (3, .int v3)] dX12_sum_85 (by decide) rfl ?_
      refine z_aload 0 dX12_sum_87 rfl ?_
      refine z_alen dX12_sum_89 hf fun x15 hf => ?_
      refine z_istore [(5, .int x15), (4, .ref x14), (1, .long (((31 : Int64) * (((31 : Int64) * (((31 : Int64) * v1) + x7.toInt64)) + x10.toInt64)) + x12.toInt64)), (0, .ref v0), (3, .int v3)] dX12_sum_90 (by decide) rfl ?_
      refine z_iconst (0 : Int32) dX12_sum_92 (by decide) ?_
      refine z_istore [(6, .int (0 : Int32)), (5, .int x15), (4, .ref x14), (1, .long (((31 : Int64) * (((31 : Int64) * (((31 : Int64) * v1) + x7.toInt64)) + x10.toInt64)) + x12.toInt64)), (0, .ref v0), (3, .int v3)] dX12_sum_93 (by decide) rfl ?_
      refine Z.sub [4, 3, 5, 2, 1, 0] rfl (zl_X12_sum_95 hd (fun u21 h22 hf => ?_) N (((31 : Int64) * (((31 : Int64) * (((31 : Int64) * v1) + x7.toInt64)) + x10.toInt64)) + x12.toInt64) (0 : Int32) h hf)
      · refine z_iinc (v3 + (1 : Int32)) 2 [(3, .int (v3 + (1 : Int32))), (0, .ref v0), (1, .long u21)] dX12_sum_154 rfl rfl (by decide) rfl ?_
        refine z_goto 31 dX12_sum_157 (by decide) ?_
        exact Z.sub [1, 2, 0] rfl (ih u21 (v3 + (1 : Int32)) h22 hf)
set_option maxRecDepth 4000 in
theorem zl_X12_sum_172 {Γ : zG} {N d : Nat} {h0 : zH} (hd : 102 ≤ d) {v0 : Nat} {v3 : Nat} {v4 : Int32} {k1 : Int64 → zH → Option (Int64 × zH)} {w : Int64 × zH}  (hk1 : ∀ (v1 : Int64) (h : zH), k1 v1 h = some w → Z Γ m_X12_sum d h0 (zoJ w) 229 [(0, .ref v0), (1, .long v1)] [] h) : ∀ (n : Nat) (v1 : Int64) (v5 : Int32) (h : zH), f_X12_sum_l172 N v0 v3 v4 k1 n v1 v5 h = some w → Z Γ m_X12_sum d h0 (zoJ w) 172 [(0, .ref v0), (1, .long v1), (3, .ref v3), (4, .int v4), (5, .int v5)] [] h := by
  intro n
  induction n with
  | zero => intro v1 v5 h hf; cases hf
  | succ n ih =>
    intro v1 v5 h hf
    rw [f_X12_sum_l172] at hf
    refine z_iload 4 dX12_sum_172 rfl ?_
    refine z_iload 3 dX12_sum_174 rfl ?_
    refine z_icmp_ge 229 dX12_sum_176 (by decide) hf (fun hf => ?_) (fun hf => ?_)
    · exact Z.sub [0, 1] rfl (hk1 v1 h hf)
    · refine z_aload_n 2 dX12_sum_179 rfl rfl ?_
      refine z_iload 4 dX12_sum_180 rfl ?_
      refine z_aaload dX12_sum_182 hf fun x27 hf => ?_
      refine z_astore [(6, .ref x27), (0, .ref v0), (1, .long v1), (3, .ref v3), (4, .int v4), (5, .int v5)] dX12_sum_183 (by decide) rfl ?_
      refine z_ldc2 (31 : Int64) dX12_sum_185 wk_X12_141 ?_
      refine z_ldc2 (31 : Int64) dX12_sum_188 wk_X12_141 ?_
      refine z_ldc2 (31 : Int64) dX12_sum_191 wk_X12_141 ?_
      refine z_lload_n 2 dX12_sum_194 rfl rfl ?_
      refine z_lmul dX12_sum_195 ?_
      refine z_aload 0 dX12_sum_196 rfl ?_
      refine z_getI dX12_sum_198 zc9 (by decide) wf_X12_134 hf fun x28 hf => ?_
      refine z_i2l dX12_sum_201 ?_
      refine z_ladd dX12_sum_202 ?_
      refine z_lmul dX12_sum_203 ?_
      refine z_aload 0 dX12_sum_204 rfl ?_
      refine z_getA dX12_sum_206 zc9 (by decide) wf_X12_65 hf fun x29 hf => ?_
      refine z_cSN_i (d' := d - 1) (As := [.ref x29]) (rest := [.long ((31 : Int64) * (((31 : Int64) * v1) + x28.toInt64)), .long (31 : Int64)]) dX12_sum_209 lk_X12_147 hf (fun w1 e1 => zc_L_number (by omega) e1) (by omega) rfl rfl (Nat.le_of_ble_eq_true rfl) fun y30 hf => ?_
      refine z_i2l dX12_sum_212 ?_
      refine z_ladd dX12_sum_213 ?_
      refine z_lmul dX12_sum_214 ?_
      refine z_aload 0 dX12_sum_215 rfl ?_
      refine z_getI dX12_sum_217 zc9 (by decide) wf_X12_72 hf fun x31 hf => ?_
      refine z_i2l dX12_sum_220 ?_
      refine z_ladd dX12_sum_221 ?_
      refine z_lstore_n [(1, .long (((31 : Int64) * (((31 : Int64) * (((31 : Int64) * v1) + x28.toInt64)) + y30.1.toInt64)) + x31.toInt64)), (6, .ref x27), (0, .ref v0), (3, .ref v3), (4, .int v4), (5, .int v5)] dX12_sum_222 rfl (by decide) rfl ?_
      refine z_iinc (v5 + (1 : Int32)) 5 [(5, .int (v5 + (1 : Int32))), (1, .long (((31 : Int64) * (((31 : Int64) * (((31 : Int64) * v1) + x28.toInt64)) + y30.1.toInt64)) + x31.toInt64)), (6, .ref x27), (0, .ref v0), (3, .ref v3), (4, .int v4)] dX12_sum_223 rfl rfl (by decide) rfl ?_
      refine z_goto 172 dX12_sum_226 (by decide) ?_
      exact Z.sub [3, 1, 4, 5, 0] rfl (ih (((31 : Int64) * (((31 : Int64) * (((31 : Int64) * v1) + x28.toInt64)) + y30.1.toInt64)) + x31.toInt64) (v5 + (1 : Int32)) y30.2 hf)
set_option maxRecDepth 4000 in
theorem zc_X12_sum {Γ : zG} {N d : Nat} (hd : 102 ≤ d) {a : Nat} {h : zH} {w : Int64 × zH} (hf : f_X12_sum N a h = some w) : Zm Γ m_X12_sum d [.ref a] h (zoJ w) := by
  unfold f_X12_sum at hf
  refine z_meth rfl (plainFor_of_name wpl_X12) (by simp [lg_sl, Value.category, zml, m_X12_sum]) ?_
  refine z_lconst (0 : Int64) dX12_sum_0 (by decide) ?_
  refine z_lstore_n [(1, .long (0 : Int64)), (0, .ref a)] dX12_sum_1 rfl (by decide) rfl ?_
  refine z_iconst (0 : Int32) dX12_sum_2 (by decide) ?_
  refine z_istore_n [(3, .int (0 : Int32)), (1, .long (0 : Int64)), (0, .ref a)] dX12_sum_3 rfl (by decide) rfl ?_
  refine Z.sub [2, 1, 0] rfl (zl_X12_sum_4 hd (fun u2 h3 hf => ?_) N (0 : Int64) (0 : Int32) h hf)
  · refine z_iconst (0 : Int32) dX12_sum_29 (by decide) ?_
    refine z_istore_n [(3, .int (0 : Int32)), (0, .ref a), (1, .long u2)] dX12_sum_30 rfl (by decide) rfl ?_
    refine Z.sub [1, 2, 0] rfl (zl_X12_sum_31 hd (fun u23 h24 hf => ?_) N u2 (0 : Int32) h3 hf)
    · refine z_aload_n 0 dX12_sum_160 rfl rfl ?_
      refine z_getA dX12_sum_161 zc12 (by decide) wf_X12_31 hf fun x25 hf => ?_
      refine z_astore_n [(3, .ref x25), (0, .ref a), (1, .long u23)] dX12_sum_164 rfl (by decide) rfl ?_
      refine z_aload_n 0 dX12_sum_165 rfl rfl ?_
      refine z_alen dX12_sum_166 hf fun x26 hf => ?_
      refine z_istore [(4, .int x26), (3, .ref x25), (0, .ref a), (1, .long u23)] dX12_sum_167 (by decide) rfl ?_
      refine z_iconst (0 : Int32) dX12_sum_169 (by decide) ?_
      refine z_istore [(5, .int (0 : Int32)), (4, .int x26), (3, .ref x25), (0, .ref a), (1, .long u23)] dX12_sum_170 (by decide) rfl ?_
      refine Z.sub [3, 4, 2, 1, 0] rfl (zl_X12_sum_172 hd (fun u32 h33 hf => ?_) N u23 (0 : Int32) h24 hf)
      · refine z_ldc2 (31 : Int64) dX12_sum_229 wk_X12_141 ?_
        refine z_lload_n 1 dX12_sum_232 rfl rfl ?_
        refine z_lmul dX12_sum_233 ?_
        refine z_aload_n 0 dX12_sum_234 rfl rfl ?_
        refine z_iconst (0 : Int32) dX12_sum_235 (by decide) ?_
        refine z_aload_n 0 dX12_sum_236 rfl rfl ?_
        refine z_getA dX12_sum_237 zc12 (by decide) wf_X12_31 hf fun x34 hf => ?_
        refine z_alen dX12_sum_240 hf fun x35 hf => ?_
        refine z_cV_a (d' := d - 1) (As := [.int (0 : Int32), .int x35]) (rest := [.long ((31 : Int64) * u32)]) dX12_sum_241 lk_X12_100 rfl hf (fun w1 e1 => zc_X12_product (by omega) e1) (by omega) rfl rfl (Nat.le_of_ble_eq_true rfl) fun y36 hf => ?_
        refine z_cSN_i (d' := d - 1) (As := [.ref y36.1]) (rest := [.long ((31 : Int64) * u32)]) dX12_sum_244 lk_X12_147 hf (fun w1 e1 => zc_L_number (by omega) e1) (by omega) rfl rfl (Nat.le_of_ble_eq_true rfl) fun y37 hf => ?_
        refine z_i2l dX12_sum_247 ?_
        refine z_ladd dX12_sum_248 ?_
        exact z_lret dX12_sum_249 rfl (by cases hf; rfl)
set_option maxRecDepth 4000 in
theorem zc_L_state {Γ : zG} {N d : Nat} (hd : 13 ≤ d) {p1 : Nat} {p2 : Int32} {h : zH} {w : Int32 × zH} (hf : f_L_state N p1 p2 h = some w) : Zm Γ m_L_state d [.ref p1, .int p2] h (zoI w) := by
  unfold f_L_state at hf
  refine z_methH (by decide) (by decide +kernel) (by simp [lg_sl, Value.category, zml, m_L_state]) ?_
  refine z_aload_n 0 dL_state_0 rfl rfl ?_
  refine z_iload_n 1 dL_state_1 rfl rfl ?_
  refine z_cV_ti (d' := d - 1) (As := [.int p2]) (rest := []) dL_state_2 lk_L_43 rfl hf (fun w1 e1 => zc_X8_state (by omega) e1) (by omega) rfl rfl (Nat.le_of_ble_eq_true rfl) (fun y1 x2 hf => ?_) (fun y1 k3 hf => ?_)
  · exact z_iret dL_state_5 rfl (by cases hf; rfl)
  · by_cases e0 : k3 = 1
    · rw [if_pos e0] at hf
      subst e0
      refine zx_catch (by decide) [] (0, 5, 6, 40) [] rfl (fun z hz => absurd hz List.not_mem_nil) (by decide) (by decide) wc_L_40 wct_1 fun q4 => ?_
      refine z_astore_n [(2, .ref q4), (0, .ref p1), (1, .int p2)] dL_state_6 rfl (by decide) rfl ?_
      refine z_ldc (-2000000098 : Int32) dL_state_7 wk_L_42 ?_
      exact z_iret dL_state_9 rfl (by cases hf; rfl)
    · rw [if_neg e0] at hf
      cases hf
set_option maxRecDepth 4000 in
theorem zc_L_player {Γ : zG} {N d : Nat} (hd : 13 ≤ d) {p1 : Nat} {p2 : Int32} {p3 : Int32} {h : zH} {w : Int32 × zH} (hf : f_L_player N p1 p2 p3 h = some w) : Zm Γ m_L_player d [.ref p1, .int p2, .int p3] h (zoI w) := by
  unfold f_L_player at hf
  refine z_methH (by decide) (by decide +kernel) (by simp [lg_sl, Value.category, zml, m_L_player]) ?_
  refine z_aload_n 0 dL_player_0 rfl rfl ?_
  refine z_iload_n 1 dL_player_1 rfl rfl ?_
  refine z_iload_n 2 dL_player_2 rfl rfl ?_
  refine z_cV_ti (d' := d - 1) (As := [.int p2, .int p3]) (rest := []) dL_player_3 lk_L_46 rfl hf (fun w1 e1 => zc_X8_player (by omega) e1) (by omega) rfl rfl (Nat.le_of_ble_eq_true rfl) (fun y1 x2 hf => ?_) (fun y1 k3 hf => ?_)
  · exact z_iret dL_player_6 rfl (by cases hf; rfl)
  · by_cases e0 : k3 = 2
    · rw [if_pos e0] at hf
      subst e0
      refine zx_catch (by decide) [] (0, 6, 7, 50) [(0, 6, 11, 40)] rfl (fun z hz => absurd hz List.not_mem_nil) (by decide) (by decide) wc_L_50 wct_2 fun q4 => ?_
      refine z_astore_n [(3, .ref q4), (0, .ref p1), (1, .int p2), (2, .int p3)] dL_player_7 rfl (by decide) rfl ?_
      refine z_ldc (-2000000097 : Int32) dL_player_8 wk_L_52 ?_
      exact z_iret dL_player_10 rfl (by cases hf; rfl)
    · rw [if_neg e0] at hf
      by_cases e1 : k3 = 1
      · rw [if_pos e1] at hf
        subst e1
        refine zx_catch (by decide) [(0, 6, 7, 50)] (0, 6, 11, 40) [] rfl (List.forall_mem_cons.mpr ⟨⟨by decide, 2, by decide, by decide, wc_L_50⟩, fun z hz => absurd hz List.not_mem_nil⟩) (by decide) (by decide) wc_L_40 wct_1 fun q5 => ?_
        refine z_astore_n [(3, .ref q5), (0, .ref p1), (1, .int p2), (2, .int p3)] dL_player_11 rfl (by decide) rfl ?_
        refine z_ldc (-2000000098 : Int32) dL_player_12 wk_L_42 ?_
        exact z_iret dL_player_14 rfl (by cases hf; rfl)
      · rw [if_neg e1] at hf
        cases hf
set_option maxRecDepth 4000 in
theorem zc_L_card {Γ : zG} {N d : Nat} (hd : 15 ≤ d) {p1 : Nat} {p2 : Int32} {p3 : Int32} {p4 : Int32} {h : zH} {w : Int32 × zH} (hf : f_L_card N p1 p2 p3 p4 h = some w) : Zm Γ m_L_card d [.ref p1, .int p2, .int p3, .int p4] h (zoI w) := by
  unfold f_L_card at hf
  refine z_methH (by decide) (by decide +kernel) (by simp [lg_sl, Value.category, zml, m_L_card]) ?_
  refine z_aload_n 0 dL_card_0 rfl rfl ?_
  refine z_iload_n 1 dL_card_1 rfl rfl ?_
  refine z_iload_n 2 dL_card_2 rfl rfl ?_
  refine z_iload_n 3 dL_card_3 rfl rfl ?_
  refine z_cV_ti (d' := d - 1) (As := [.int p2, .int p3, .int p4]) (rest := []) dL_card_4 lk_L_53 rfl hf (fun w1 e1 => zc_X8_card (by omega) e1) (by omega) rfl rfl (Nat.le_of_ble_eq_true rfl) (fun y1 x2 hf => ?_) (fun y1 k3 hf => ?_)
  · exact z_iret dL_card_7 rfl (by cases hf; rfl)
  · by_cases e0 : k3 = 2
    · rw [if_pos e0] at hf
      subst e0
      refine zx_catch (by decide) [] (0, 7, 8, 50) [(0, 7, 13, 57), (0, 7, 18, 40)] rfl (fun z hz => absurd hz List.not_mem_nil) (by decide) (by decide) wc_L_50 wct_2 fun q4 => ?_
      refine z_astore [(4, .ref q4), (0, .ref p1), (1, .int p2), (2, .int p3), (3, .int p4)] dL_card_8 (by decide) rfl ?_
      refine z_ldc (-2000000097 : Int32) dL_card_10 wk_L_52 ?_
      exact z_iret dL_card_12 rfl (by cases hf; rfl)
    · rw [if_neg e0] at hf
      by_cases e1 : k3 = 3
      · rw [if_pos e1] at hf
        subst e1
        refine zx_catch (by decide) [(0, 7, 8, 50)] (0, 7, 13, 57) [(0, 7, 18, 40)] rfl (List.forall_mem_cons.mpr ⟨⟨by decide, 2, by decide, by decide, wc_L_50⟩, fun z hz => absurd hz List.not_mem_nil⟩) (by decide) (by decide) wc_L_57 wct_3 fun q5 => ?_
        refine z_astore [(4, .ref q5), (0, .ref p1), (1, .int p2), (2, .int p3), (3, .int p4)] dL_card_13 (by decide) rfl ?_
        refine z_ldc (-2000000100 : Int32) dL_card_15 wk_L_59 ?_
        exact z_iret dL_card_17 rfl (by cases hf; rfl)
      · rw [if_neg e1] at hf
        by_cases e2 : k3 = 1
        · rw [if_pos e2] at hf
          subst e2
          refine zx_catch (by decide) [(0, 7, 8, 50), (0, 7, 13, 57)] (0, 7, 18, 40) [] rfl (List.forall_mem_cons.mpr ⟨⟨by decide, 2, by decide, by decide, wc_L_50⟩, List.forall_mem_cons.mpr ⟨⟨by decide, 3, by decide, by decide, wc_L_57⟩, fun z hz => absurd hz List.not_mem_nil⟩⟩) (by decide) (by decide) wc_L_40 wct_1 fun q6 => ?_
          refine z_astore [(4, .ref q6), (0, .ref p1), (1, .int p2), (2, .int p3), (3, .int p4)] dL_card_18 (by decide) rfl ?_
          refine z_ldc (-2000000098 : Int32) dL_card_20 wk_L_42 ?_
          exact z_iret dL_card_22 rfl (by cases hf; rfl)
        · rw [if_neg e2] at hf
          cases hf
set_option maxRecDepth 4000 in
theorem zc_L_bid {Γ : zG} {N d : Nat} (hd : 14 ≤ d) {p1 : Nat} {p2 : Int32} {p3 : Int32} {h : zH} {w : Int32 × zH} (hf : f_L_bid N p1 p2 p3 h = some w) : Zm Γ m_L_bid d [.ref p1, .int p2, .int p3] h (zoI w) := by
  unfold f_L_bid at hf
  refine z_methH (by decide) (by decide +kernel) (by simp [lg_sl, Value.category, zml, m_L_bid]) ?_
  refine z_aload_n 0 dL_bid_0 rfl rfl ?_
  refine z_iload_n 1 dL_bid_1 rfl rfl ?_
  refine z_iload_n 2 dL_bid_2 rfl rfl ?_
  refine z_cV_ti (d' := d - 1) (As := [.int p2, .int p3]) (rest := []) dL_bid_3 lk_L_60 rfl hf (fun w1 e1 => zc_X8_bid (by omega) e1) (by omega) rfl rfl (Nat.le_of_ble_eq_true rfl) (fun y1 x2 hf => ?_) (fun y1 k3 hf => ?_)
  · exact z_iret dL_bid_6 rfl (by cases hf; rfl)
  · by_cases e0 : k3 = 3
    · rw [if_pos e0] at hf
      subst e0
      refine zx_catch (by decide) [] (0, 6, 7, 57) [(0, 6, 11, 40)] rfl (fun z hz => absurd hz List.not_mem_nil) (by decide) (by decide) wc_L_57 wct_3 fun q4 => ?_
      refine z_astore_n [(3, .ref q4), (0, .ref p1), (1, .int p2), (2, .int p3)] dL_bid_7 rfl (by decide) rfl ?_
      refine z_ldc (-2000000100 : Int32) dL_bid_8 wk_L_59 ?_
      exact z_iret dL_bid_10 rfl (by cases hf; rfl)
    · rw [if_neg e0] at hf
      by_cases e1 : k3 = 1
      · rw [if_pos e1] at hf
        subst e1
        refine zx_catch (by decide) [(0, 6, 7, 57)] (0, 6, 11, 40) [] rfl (List.forall_mem_cons.mpr ⟨⟨by decide, 3, by decide, by decide, wc_L_57⟩, fun z hz => absurd hz List.not_mem_nil⟩) (by decide) (by decide) wc_L_40 wct_1 fun q5 => ?_
        refine z_astore_n [(3, .ref q5), (0, .ref p1), (1, .int p2), (2, .int p3)] dL_bid_11 rfl (by decide) rfl ?_
        refine z_ldc (-2000000098 : Int32) dL_bid_12 wk_L_42 ?_
        exact z_iret dL_bid_14 rfl (by cases hf; rfl)
      · rw [if_neg e1] at hf
        cases hf
set_option maxRecDepth 4000 in
theorem zl_L_agrees_40 {Γ : zG} {N d : Nat} {h0 : zH} (hd : 103 ≤ d) {v0 : Nat} {v1 : Nat} {k1 : Int32 → zH → Option ((Int32 ⊕ Nat) × zH)} {w : (Int32 ⊕ Nat) × zH}  (hk1 : ∀ (v2 : Int32) (h : zH), k1 v2 h = some w → Z Γ m_L_agrees d h0 (zoTI w) 75 [(0, .ref v0), (1, .ref v1), (2, .int v2)] [] h) : ∀ (n : Nat) (v2 : Int32) (v3 : Int32) (h : zH), f_L_agrees_l40 N v0 v1 k1 n v2 v3 h = some w → Z Γ m_L_agrees d h0 (zoTI w) 40 [(0, .ref v0), (1, .ref v1), (2, .int v2), (3, .int v3)] [] h := by
  intro n
  induction n with
  | zero => intro v2 v3 h hf; cases hf
  | succ n ih =>
    intro v2 v3 h hf
    rw [f_L_agrees_l40] at hf
    refine z_iload_n 3 dL_agrees_40 rfl rfl ?_
    refine z_bipush (9 : Int32) dL_agrees_41 (by decide) ?_
    refine z_icmp_ge 75 dL_agrees_43 (by decide) hf (fun hf => ?_) (fun hf => ?_)
    · exact Z.sub [0, 1, 2] rfl (hk1 v2 h hf)
    · refine z_iload_n 2 dL_agrees_46 rfl rfl ?_
      refine z_if_eq 75 dL_agrees_47 (by decide) hf (fun hf => ?_) (fun hf => ?_)
      · exact Z.sub [0, 1, 2] rfl (hk1 v2 h hf)
      · refine z_aload_n 0 dL_agrees_50 rfl rfl ?_
        refine z_iload_n 3 dL_agrees_51 rfl rfl ?_
        refine z_cW_i (d' := d - 1) (As := [.ref v0, .int v3]) (rest := []) dL_agrees_52 lk_L_234 hf (fun w1 e1 => zc_L_state (by omega) e1) (by omega) rfl rfl (Nat.le_of_ble_eq_true rfl) fun y5 hf => ?_
        refine z_aload_n 1 dL_agrees_55 rfl rfl ?_
        refine z_iload_n 3 dL_agrees_56 rfl rfl ?_
        refine z_cV_i (d' := d - 1) (As := [.int v3]) (rest := [.int y5.1]) dL_agrees_57 lk_L_236 rfl hf (fun w1 e1 => zc_X12_told (by omega) e1) (by omega) rfl rfl (Nat.le_of_ble_eq_true rfl) fun y6 hf => ?_
        refine zjn_elim (P := fun (j68 : Int32 → Int32 → zH → Option ((Int32 ⊕ Nat) × zH)) => ∀ (v3 : Int32) (s0 : Int32) (h : zH), j68 v3 s0 h = some w → Z Γ m_L_agrees d h0 (zoTI w) 68 [(0, .ref v0), (1, .ref v1), (3, .int v3)] [.int s0] h) hf (fun v3 s0 h hf => ?_) (fun j68 hj68 hf => ?_)
        · refine z_istore_n [(2, .int s0), (0, .ref v0), (1, .ref v1), (3, .int v3)] dL_agrees_68 rfl (by decide) rfl ?_
          refine z_iinc (v3 + (1 : Int32)) 3 [(3, .int (v3 + (1 : Int32))), (2, .int s0), (0, .ref v0), (1, .ref v1)] dL_agrees_69 rfl rfl (by decide) rfl ?_
          refine z_goto 40 dL_agrees_72 (by decide) ?_
          exact Z.sub [2, 3, 1, 0] rfl (ih s0 (v3 + (1 : Int32)) h hf)
        · refine z_icmp_ne 67 dL_agrees_60 (by decide) hf (fun hf => ?_) (fun hf => ?_)
          · refine z_iconst (1 : Int32) dL_agrees_63 (by decide) ?_
            refine z_goto 68 dL_agrees_64 (by decide) ?_
            exact Z.sub [0, 1, 3] rfl (hj68 v3 (1 : Int32) y6.2 hf)
          · refine z_iconst (0 : Int32) dL_agrees_67 (by decide) ?_
            exact Z.sub [0, 1, 3] rfl (hj68 v3 (0 : Int32) y6.2 hf)
set_option maxRecDepth 4000 in
theorem zl_L_agrees_163 {Γ : zG} {N d : Nat} {h0 : zH} (hd : 103 ≤ d) {v0 : Nat} {v1 : Nat} {v3 : Int32} {k1 : Int32 → zH → Option ((Int32 ⊕ Nat) × zH)} {w : (Int32 ⊕ Nat) × zH}  (hk1 : ∀ (v2 : Int32) (h : zH), k1 v2 h = some w → Z Γ m_L_agrees d h0 (zoTI w) 264 [(0, .ref v0), (1, .ref v1), (2, .int v2), (3, .int v3)] [] h) : ∀ (n : Nat) (v2 : Int32) (v4 : Int32) (h : zH), f_L_agrees_l163 N v0 v1 v3 k1 n v2 v4 h = some w → Z Γ m_L_agrees d h0 (zoTI w) 163 [(0, .ref v0), (1, .ref v1), (2, .int v2), (3, .int v3), (4, .int v4)] [] h := by
  intro n
  induction n with
  | zero => intro v2 v4 h hf; cases hf
  | succ n ih =>
    intro v2 v4 h hf
    rw [f_L_agrees_l163] at hf
    refine z_iload 4 dL_agrees_163 rfl ?_
    refine z_aload_n 1 dL_agrees_165 rfl rfl ?_
    refine z_getA dL_agrees_166 zc12 (by decide) wf_L_164 hf fun x25 hf => ?_
    refine z_iload_n 3 dL_agrees_169 rfl rfl ?_
    refine z_aaload dL_agrees_170 hf fun x26 hf => ?_
    refine z_alen dL_agrees_171 hf fun x27 hf => ?_
    refine z_icmp_ge 264 dL_agrees_172 (by decide) hf (fun hf => ?_) (fun hf => ?_)
    · exact Z.sub [0, 1, 2, 3] rfl (hk1 v2 h hf)
    · refine z_iload_n 2 dL_agrees_175 rfl rfl ?_
      refine z_if_eq 264 dL_agrees_176 (by decide) hf (fun hf => ?_) (fun hf => ?_)
      · exact Z.sub [0, 1, 2, 3] rfl (hk1 v2 h hf)
      · refine z_aload_n 0 dL_agrees_179 rfl rfl ?_
        refine z_iload_n 3 dL_agrees_180 rfl rfl ?_
        refine z_iload 4 dL_agrees_181 rfl ?_
        refine z_iconst (0 : Int32) dL_agrees_183 (by decide) ?_
        refine z_cW_i (d' := d - 1) (As := [.ref v0, .int v3, .int v4, .int (0 : Int32)]) (rest := []) dL_agrees_184 lk_L_242 hf (fun w1 e1 => zc_L_card (by omega) e1) (by omega) rfl rfl (Nat.le_of_ble_eq_true rfl) fun y28 hf => ?_
        refine z_aload_n 1 dL_agrees_187 rfl rfl ?_
        refine z_getA dL_agrees_188 zc12 (by decide) wf_L_164 hf fun x29 hf => ?_
        refine z_iload_n 3 dL_agrees_191 rfl rfl ?_
        refine z_aaload dL_agrees_192 hf fun x30 hf => ?_
        refine z_iload 4 dL_agrees_193 rfl ?_
        refine z_aaload dL_agrees_195 hf fun x31 hf => ?_
        refine z_getA dL_agrees_196 zc9 (by decide) wf_L_182 hf fun x32 hf => ?_
        refine z_cS_i (d' := d - 1) (As := [.ref x32]) (rest := [.int y28.1]) dL_agrees_199 lk_L_185 hf (fun w1 e1 => zc_L_number (by omega) e1) (by omega) rfl rfl (Nat.le_of_ble_eq_true rfl) fun y33 hf => ?_
        refine zjn_elim (P := fun (j257 : Int32 → Int32 → zH → Option ((Int32 ⊕ Nat) × zH)) => ∀ (v4 : Int32) (s0 : Int32) (h : zH), j257 v4 s0 h = some w → Z Γ m_L_agrees d h0 (zoTI w) 257 [(0, .ref v0), (1, .ref v1), (3, .int v3), (4, .int v4)] [.int s0] h) hf (fun v4 s0 h hf => ?_) (fun j257 hj257 hf => ?_)
        · refine z_istore_n [(2, .int s0), (0, .ref v0), (1, .ref v1), (3, .int v3), (4, .int v4)] dL_agrees_257 rfl (by decide) rfl ?_
          refine z_iinc (v4 + (1 : Int32)) 4 [(4, .int (v4 + (1 : Int32))), (2, .int s0), (0, .ref v0), (1, .ref v1), (3, .int v3)] dL_agrees_258 rfl rfl (by decide) rfl ?_
          refine z_goto 163 dL_agrees_261 (by decide) ?_
          exact Z.sub [2, 3, 1, 4, 0] rfl (ih s0 (v4 + (1 : Int32)) h hf)
        · refine zjn_elim (P := fun (j256 : Int32 → zH → Option ((Int32 ⊕ Nat) × zH)) => ∀ (v4 : Int32) (h : zH), j256 v4 h = some w → Z Γ m_L_agrees d h0 (zoTI w) 256 [(0, .ref v0), (1, .ref v1), (3, .int v3), (4, .int v4)] [] h) hf (fun v4 h hf => ?_) (fun j256 hj256 hf => ?_)
          · refine z_iconst (0 : Int32) dL_agrees_256 (by decide) ?_
            exact Z.sub [0, 1, 2, 3] rfl (hj257 v4 (0 : Int32) h hf)
          · refine z_icmp_ne 256 dL_agrees_202 (by decide) hf (fun hf => ?_) (fun hf => ?_)
            · refine z_aload_n 0 dL_agrees_205 rfl rfl ?_
              refine z_iload_n 3 dL_agrees_206 rfl rfl ?_
              refine z_iload 4 dL_agrees_207 rfl ?_
              refine z_iconst (1 : Int32) dL_agrees_209 (by decide) ?_
              refine z_cW_i (d' := d - 1) (As := [.ref v0, .int v3, .int v4, .int (1 : Int32)]) (rest := []) dL_agrees_210 lk_L_242 hf (fun w1 e1 => zc_L_card (by omega) e1) (by omega) rfl rfl (Nat.le_of_ble_eq_true rfl) fun y34 hf => ?_
              refine z_aload_n 1 dL_agrees_213 rfl rfl ?_
              refine z_getA dL_agrees_214 zc12 (by decide) wf_L_164 hf fun x35 hf => ?_
              refine z_iload_n 3 dL_agrees_217 rfl rfl ?_
              refine z_aaload dL_agrees_218 hf fun x36 hf => ?_
              refine z_iload 4 dL_agrees_219 rfl ?_
              refine z_aaload dL_agrees_221 hf fun x37 hf => ?_
              refine z_getI dL_agrees_222 zc9 (by decide) wf_L_189 hf fun x38 hf => ?_
              refine z_icmp_ne 256 dL_agrees_225 (by decide) hf (fun hf => ?_) (fun hf => ?_)
              · refine z_aload_n 0 dL_agrees_228 rfl rfl ?_
                refine z_iload_n 3 dL_agrees_229 rfl rfl ?_
                refine z_iload 4 dL_agrees_230 rfl ?_
                refine z_iconst (2 : Int32) dL_agrees_232 (by decide) ?_
                refine z_cW_i (d' := d - 1) (As := [.ref v0, .int v3, .int v4, .int (2 : Int32)]) (rest := []) dL_agrees_233 lk_L_242 hf (fun w1 e1 => zc_L_card (by omega) e1) (by omega) rfl rfl (Nat.le_of_ble_eq_true rfl) fun y39 hf => ?_
                refine z_aload_n 1 dL_agrees_236 rfl rfl ?_
                refine z_aload_n 1 dL_agrees_237 rfl rfl ?_
                refine z_getA dL_agrees_238 zc12 (by decide) wf_L_164 hf fun x40 hf => ?_
                refine z_iload_n 3 dL_agrees_241 rfl rfl ?_
                refine z_aaload dL_agrees_242 hf fun x41 hf => ?_
                refine z_iload 4 dL_agrees_243 rfl ?_
                refine z_aaload dL_agrees_245 hf fun x42 hf => ?_
                refine z_cV_i (d' := d - 1) (As := [.ref x42]) (rest := [.int y39.1]) dL_agrees_246 lk_L_245 rfl hf (fun w1 e1 => zc_X12_price (by omega) e1) (by omega) rfl rfl (Nat.le_of_ble_eq_true rfl) fun y43 hf => ?_
                refine z_icmp_ne 256 dL_agrees_249 (by decide) hf (fun hf => ?_) (fun hf => ?_)
                · refine z_iconst (1 : Int32) dL_agrees_252 (by decide) ?_
                  refine z_goto 257 dL_agrees_253 (by decide) ?_
                  exact Z.sub [0, 1, 3, 4] rfl (hj257 v4 (1 : Int32) y43.2 hf)
                · exact Z.sub [0, 1, 3, 4] rfl (hj256 v4 y43.2 hf)
              · exact Z.sub [0, 1, 3, 4] rfl (hj256 v4 y34.2 hf)
            · exact Z.sub [0, 1, 3, 4] rfl (hj256 v4 y33.2 hf)
set_option maxRecDepth 4000 in
theorem zl_L_agrees_77 {Γ : zG} {N d : Nat} {h0 : zH} (hd : 103 ≤ d) {v0 : Nat} {v1 : Nat} {k1 : Int32 → zH → Option ((Int32 ⊕ Nat) × zH)} {w : (Int32 ⊕ Nat) × zH}  (hk1 : ∀ (v2 : Int32) (h : zH), k1 v2 h = some w → Z Γ m_L_agrees d h0 (zoTI w) 270 [(0, .ref v0), (1, .ref v1), (2, .int v2)] [] h) : ∀ (n : Nat) (v2 : Int32) (v3 : Int32) (h : zH), f_L_agrees_l77 N v0 v1 k1 n v2 v3 h = some w → Z Γ m_L_agrees d h0 (zoTI w) 77 [(0, .ref v0), (1, .ref v1), (2, .int v2), (3, .int v3)] [] h := by
  intro n
  induction n with
  | zero => intro v2 v3 h hf; cases hf
  | succ n ih =>
    intro v2 v3 h hf
    rw [f_L_agrees_l77] at hf
    refine z_iload_n 3 dL_agrees_77 rfl rfl ?_
    refine z_aload_n 1 dL_agrees_78 rfl rfl ?_
    refine z_getA dL_agrees_79 zc12 (by decide) wf_L_155 hf fun x9 hf => ?_
    refine z_alen dL_agrees_82 hf fun x10 hf => ?_
    refine z_icmp_ge 270 dL_agrees_83 (by decide) hf (fun hf => ?_) (fun hf => ?_)
    · exact Z.sub [0, 1, 2] rfl (hk1 v2 h hf)
    · refine z_iload_n 2 dL_agrees_86 rfl rfl ?_
      refine z_if_eq 270 dL_agrees_87 (by decide) hf (fun hf => ?_) (fun hf => ?_)
      · exact Z.sub [0, 1, 2] rfl (hk1 v2 h hf)
      · refine z_aload_n 0 dL_agrees_90 rfl rfl ?_
        refine z_iload_n 3 dL_agrees_91 rfl rfl ?_
        refine z_iconst (0 : Int32) dL_agrees_92 (by decide) ?_
        refine z_cW_i (d' := d - 1) (As := [.ref v0, .int v3, .int (0 : Int32)]) (rest := []) dL_agrees_93 lk_L_239 hf (fun w1 e1 => zc_L_player (by omega) e1) (by omega) rfl rfl (Nat.le_of_ble_eq_true rfl) fun y11 hf => ?_
        refine z_aload_n 1 dL_agrees_96 rfl rfl ?_
        refine z_getA dL_agrees_97 zc12 (by decide) wf_L_155 hf fun x12 hf => ?_
        refine z_iload_n 3 dL_agrees_100 rfl rfl ?_
        refine z_iaload dL_agrees_101 hf fun x13 hf => ?_
        refine zjn_elim (P := fun (j159 : Int32 → Int32 → zH → Option ((Int32 ⊕ Nat) × zH)) => ∀ (v3 : Int32) (s0 : Int32) (h : zH), j159 v3 s0 h = some w → Z Γ m_L_agrees d h0 (zoTI w) 159 [(0, .ref v0), (1, .ref v1), (3, .int v3)] [.int s0] h) hf (fun v3 s0 h hf => ?_) (fun j159 hj159 hf => ?_)
        · refine z_istore_n [(2, .int s0), (0, .ref v0), (1, .ref v1), (3, .int v3)] dL_agrees_159 rfl (by decide) rfl ?_
          refine z_iconst (0 : Int32) dL_agrees_160 (by decide) ?_
          refine z_istore [(4, .int (0 : Int32)), (2, .int s0), (0, .ref v0), (1, .ref v1), (3, .int v3)] dL_agrees_161 (by decide) rfl ?_
          refine Z.sub [2, 3, 1, 4, 0] rfl (zl_L_agrees_163 hd (fun u44 h45 hf => ?_) N s0 (0 : Int32) h hf)
          · refine z_iinc (v3 + (1 : Int32)) 3 [(3, .int (v3 + (1 : Int32))), (0, .ref v0), (1, .ref v1), (2, .int u44)] dL_agrees_264 rfl rfl (by decide) rfl ?_
            refine z_goto 77 dL_agrees_267 (by decide) ?_
            exact Z.sub [1, 2, 3, 0] rfl (ih u44 (v3 + (1 : Int32)) h45 hf)
        · refine zjn_elim (P := fun (j158 : Int32 → zH → Option ((Int32 ⊕ Nat) × zH)) => ∀ (v3 : Int32) (h : zH), j158 v3 h = some w → Z Γ m_L_agrees d h0 (zoTI w) 158 [(0, .ref v0), (1, .ref v1), (3, .int v3)] [] h) hf (fun v3 h hf => ?_) (fun j158 hj158 hf => ?_)
          · refine z_iconst (0 : Int32) dL_agrees_158 (by decide) ?_
            exact Z.sub [0, 1, 2] rfl (hj159 v3 (0 : Int32) h hf)
          · refine z_icmp_ne 158 dL_agrees_102 (by decide) hf (fun hf => ?_) (fun hf => ?_)
            · refine z_aload_n 0 dL_agrees_105 rfl rfl ?_
              refine z_iload_n 3 dL_agrees_106 rfl rfl ?_
              refine z_iconst (1 : Int32) dL_agrees_107 (by decide) ?_
              refine z_cW_i (d' := d - 1) (As := [.ref v0, .int v3, .int (1 : Int32)]) (rest := []) dL_agrees_108 lk_L_239 hf (fun w1 e1 => zc_L_player (by omega) e1) (by omega) rfl rfl (Nat.le_of_ble_eq_true rfl) fun y14 hf => ?_
              refine z_aload_n 1 dL_agrees_111 rfl rfl ?_
              refine z_getA dL_agrees_112 zc12 (by decide) wf_L_164 hf fun x15 hf => ?_
              refine z_iload_n 3 dL_agrees_115 rfl rfl ?_
              refine z_aaload dL_agrees_116 hf fun x16 hf => ?_
              refine z_alen dL_agrees_117 hf fun x17 hf => ?_
              refine z_icmp_ne 158 dL_agrees_118 (by decide) hf (fun hf => ?_) (fun hf => ?_)
              · refine z_aload_n 0 dL_agrees_121 rfl rfl ?_
                refine z_iload_n 3 dL_agrees_122 rfl rfl ?_
                refine z_iconst (2 : Int32) dL_agrees_123 (by decide) ?_
                refine z_cW_i (d' := d - 1) (As := [.ref v0, .int v3, .int (2 : Int32)]) (rest := []) dL_agrees_124 lk_L_239 hf (fun w1 e1 => zc_L_player (by omega) e1) (by omega) rfl rfl (Nat.le_of_ble_eq_true rfl) fun y18 hf => ?_
                refine z_aload_n 1 dL_agrees_127 rfl rfl ?_
                refine z_getA dL_agrees_128 zc12 (by decide) wf_L_159 hf fun x19 hf => ?_
                refine z_iload_n 3 dL_agrees_131 rfl rfl ?_
                refine z_iaload dL_agrees_132 hf fun x20 hf => ?_
                refine z_icmp_ne 158 dL_agrees_133 (by decide) hf (fun hf => ?_) (fun hf => ?_)
                · refine z_aload_n 0 dL_agrees_136 rfl rfl ?_
                  refine z_iload_n 3 dL_agrees_137 rfl rfl ?_
                  refine z_aload_n 1 dL_agrees_138 rfl rfl ?_
                  refine z_getA dL_agrees_139 zc12 (by decide) wf_L_164 hf fun x21 hf => ?_
                  refine z_iload_n 3 dL_agrees_142 rfl rfl ?_
                  refine z_aaload dL_agrees_143 hf fun x22 hf => ?_
                  refine z_alen dL_agrees_144 hf fun x23 hf => ?_
                  refine z_iconst (0 : Int32) dL_agrees_145 (by decide) ?_
                  refine z_cW_i (d' := d - 1) (As := [.ref v0, .int v3, .int x23, .int (0 : Int32)]) (rest := []) dL_agrees_146 lk_L_242 hf (fun w1 e1 => zc_L_card (by omega) e1) (by omega) rfl rfl (Nat.le_of_ble_eq_true rfl) fun y24 hf => ?_
                  refine z_ldc (-2000000100 : Int32) dL_agrees_149 wk_L_59 ?_
                  refine z_icmp_ne 158 dL_agrees_151 (by decide) hf (fun hf => ?_) (fun hf => ?_)
                  · refine z_iconst (1 : Int32) dL_agrees_154 (by decide) ?_
                    refine z_goto 159 dL_agrees_155 (by decide) ?_
                    exact Z.sub [0, 1, 3] rfl (hj159 v3 (1 : Int32) y24.2 hf)
                  · exact Z.sub [0, 1, 3] rfl (hj158 v3 y24.2 hf)
                · exact Z.sub [0, 1, 3] rfl (hj158 v3 y18.2 hf)
              · exact Z.sub [0, 1, 3] rfl (hj158 v3 y14.2 hf)
            · exact Z.sub [0, 1, 3] rfl (hj158 v3 y11.2 hf)
set_option maxRecDepth 4000 in
theorem zl_L_agrees_272 {Γ : zG} {N d : Nat} {h0 : zH} (hd : 103 ≤ d) {v0 : Nat} {v1 : Nat} {k1 : Int32 → zH → Option ((Int32 ⊕ Nat) × zH)} {w : (Int32 ⊕ Nat) × zH}  (hk1 : ∀ (v2 : Int32) (h : zH), k1 v2 h = some w → Z Γ m_L_agrees d h0 (zoTI w) 354 [(0, .ref v0), (1, .ref v1), (2, .int v2)] [] h) : ∀ (n : Nat) (v2 : Int32) (v3 : Int32) (h : zH), f_L_agrees_l272 N v0 v1 k1 n v2 v3 h = some w → Z Γ m_L_agrees d h0 (zoTI w) 272 [(0, .ref v0), (1, .ref v1), (2, .int v2), (3, .int v3)] [] h := by
  intro n
  induction n with
  | zero => intro v2 v3 h hf; cases hf
  | succ n ih =>
    intro v2 v3 h hf
    rw [f_L_agrees_l272] at hf
    refine z_iload_n 3 dL_agrees_272 rfl rfl ?_
    refine z_aload_n 1 dL_agrees_273 rfl rfl ?_
    refine z_getA dL_agrees_274 zc12 (by decide) wf_L_228 hf fun x48 hf => ?_
    refine z_alen dL_agrees_277 hf fun x49 hf => ?_
    refine z_icmp_ge 354 dL_agrees_278 (by decide) hf (fun hf => ?_) (fun hf => ?_)
    · exact Z.sub [0, 1, 2] rfl (hk1 v2 h hf)
    · refine z_iload_n 2 dL_agrees_281 rfl rfl ?_
      refine z_if_eq 354 dL_agrees_282 (by decide) hf (fun hf => ?_) (fun hf => ?_)
      · exact Z.sub [0, 1, 2] rfl (hk1 v2 h hf)
      · refine z_aload_n 0 dL_agrees_285 rfl rfl ?_
        refine z_iload_n 3 dL_agrees_286 rfl rfl ?_
        refine z_iconst (0 : Int32) dL_agrees_287 (by decide) ?_
        refine z_cW_i (d' := d - 1) (As := [.ref v0, .int v3, .int (0 : Int32)]) (rest := []) dL_agrees_288 lk_L_249 hf (fun w1 e1 => zc_L_bid (by omega) e1) (by omega) rfl rfl (Nat.le_of_ble_eq_true rfl) fun y50 hf => ?_
        refine z_aload_n 1 dL_agrees_291 rfl rfl ?_
        refine z_getA dL_agrees_292 zc12 (by decide) wf_L_228 hf fun x51 hf => ?_
        refine z_iload_n 3 dL_agrees_295 rfl rfl ?_
        refine z_aaload dL_agrees_296 hf fun x52 hf => ?_
        refine z_getI dL_agrees_297 zc9 (by decide) wf_L_251 hf fun x53 hf => ?_
        refine zjn_elim (P := fun (j347 : Int32 → Int32 → zH → Option ((Int32 ⊕ Nat) × zH)) => ∀ (v3 : Int32) (s0 : Int32) (h : zH), j347 v3 s0 h = some w → Z Γ m_L_agrees d h0 (zoTI w) 347 [(0, .ref v0), (1, .ref v1), (3, .int v3)] [.int s0] h) hf (fun v3 s0 h hf => ?_) (fun j347 hj347 hf => ?_)
        · refine z_istore_n [(2, .int s0), (0, .ref v0), (1, .ref v1), (3, .int v3)] dL_agrees_347 rfl (by decide) rfl ?_
          refine z_iinc (v3 + (1 : Int32)) 3 [(3, .int (v3 + (1 : Int32))), (2, .int s0), (0, .ref v0), (1, .ref v1)] dL_agrees_348 rfl rfl (by decide) rfl ?_
          refine z_goto 272 dL_agrees_351 (by decide) ?_
          exact Z.sub [2, 3, 1, 0] rfl (ih s0 (v3 + (1 : Int32)) h hf)
        · refine zjn_elim (P := fun (j346 : Int32 → zH → Option ((Int32 ⊕ Nat) × zH)) => ∀ (v3 : Int32) (h : zH), j346 v3 h = some w → Z Γ m_L_agrees d h0 (zoTI w) 346 [(0, .ref v0), (1, .ref v1), (3, .int v3)] [] h) hf (fun v3 h hf => ?_) (fun j346 hj346 hf => ?_)
          · refine z_iconst (0 : Int32) dL_agrees_346 (by decide) ?_
            exact Z.sub [0, 1, 2] rfl (hj347 v3 (0 : Int32) h hf)
          · refine z_icmp_ne 346 dL_agrees_300 (by decide) hf (fun hf => ?_) (fun hf => ?_)
            · refine z_aload_n 0 dL_agrees_303 rfl rfl ?_
              refine z_iload_n 3 dL_agrees_304 rfl rfl ?_
              refine z_iconst (1 : Int32) dL_agrees_305 (by decide) ?_
              refine z_cW_i (d' := d - 1) (As := [.ref v0, .int v3, .int (1 : Int32)]) (rest := []) dL_agrees_306 lk_L_249 hf (fun w1 e1 => zc_L_bid (by omega) e1) (by omega) rfl rfl (Nat.le_of_ble_eq_true rfl) fun y54 hf => ?_
              refine z_aload_n 1 dL_agrees_309 rfl rfl ?_
              refine z_getA dL_agrees_310 zc12 (by decide) wf_L_228 hf fun x55 hf => ?_
              refine z_iload_n 3 dL_agrees_313 rfl rfl ?_
              refine z_aaload dL_agrees_314 hf fun x56 hf => ?_
              refine z_getA dL_agrees_315 zc9 (by decide) wf_L_182 hf fun x57 hf => ?_
              refine z_cS_i (d' := d - 1) (As := [.ref x57]) (rest := [.int y54.1]) dL_agrees_318 lk_L_185 hf (fun w1 e1 => zc_L_number (by omega) e1) (by omega) rfl rfl (Nat.le_of_ble_eq_true rfl) fun y58 hf => ?_
              refine z_icmp_ne 346 dL_agrees_321 (by decide) hf (fun hf => ?_) (fun hf => ?_)
              · refine z_aload_n 0 dL_agrees_324 rfl rfl ?_
                refine z_iload_n 3 dL_agrees_325 rfl rfl ?_
                refine z_iconst (2 : Int32) dL_agrees_326 (by decide) ?_
                refine z_cW_i (d' := d - 1) (As := [.ref v0, .int v3, .int (2 : Int32)]) (rest := []) dL_agrees_327 lk_L_249 hf (fun w1 e1 => zc_L_bid (by omega) e1) (by omega) rfl rfl (Nat.le_of_ble_eq_true rfl) fun y59 hf => ?_
                refine z_aload_n 1 dL_agrees_330 rfl rfl ?_
                refine z_getA dL_agrees_331 zc12 (by decide) wf_L_228 hf fun x60 hf => ?_
                refine z_iload_n 3 dL_agrees_334 rfl rfl ?_
                refine z_aaload dL_agrees_335 hf fun x61 hf => ?_
                refine z_getI dL_agrees_336 zc9 (by decide) wf_L_189 hf fun x62 hf => ?_
                refine z_icmp_ne 346 dL_agrees_339 (by decide) hf (fun hf => ?_) (fun hf => ?_)
                · refine z_iconst (1 : Int32) dL_agrees_342 (by decide) ?_
                  refine z_goto 347 dL_agrees_343 (by decide) ?_
                  exact Z.sub [0, 1, 3] rfl (hj347 v3 (1 : Int32) y59.2 hf)
                · exact Z.sub [0, 1, 3] rfl (hj346 v3 y59.2 hf)
              · exact Z.sub [0, 1, 3] rfl (hj346 v3 y58.2 hf)
            · exact Z.sub [0, 1, 3] rfl (hj346 v3 y50.2 hf)
set_option maxRecDepth 4000 in
theorem zj_L_agrees_37 {Γ : zG} {N d : Nat} {h0 : zH} (hd : 103 ≤ d) {v0 : Nat} {v1 : Nat} {s0 : Int32} {h : zH} {w : (Int32 ⊕ Nat) × zH} (hf : f_L_agrees_j37 N v0 v1 s0 h = some w) : Z Γ m_L_agrees d h0 (zoTI w) 37 [(0, .ref v0), (1, .ref v1)] [.int s0] h := by
  unfold f_L_agrees_j37 at hf
  refine z_istore_n [(2, .int s0), (0, .ref v0), (1, .ref v1)] dL_agrees_37 rfl (by decide) rfl ?_
  refine z_iconst (0 : Int32) dL_agrees_38 (by decide) ?_
  refine z_istore_n [(3, .int (0 : Int32)), (2, .int s0), (0, .ref v0), (1, .ref v1)] dL_agrees_39 rfl (by decide) rfl ?_
  refine Z.sub [2, 3, 1, 0] rfl (zl_L_agrees_40 hd (fun u7 h8 hf => ?_) N s0 (0 : Int32) h hf)
  · refine z_iconst (0 : Int32) dL_agrees_75 (by decide) ?_
    refine z_istore_n [(3, .int (0 : Int32)), (0, .ref v0), (1, .ref v1), (2, .int u7)] dL_agrees_76 rfl (by decide) rfl ?_
    refine Z.sub [1, 2, 3, 0] rfl (zl_L_agrees_77 hd (fun u46 h47 hf => ?_) N u7 (0 : Int32) h8 hf)
    · refine z_iconst (0 : Int32) dL_agrees_270 (by decide) ?_
      refine z_istore_n [(3, .int (0 : Int32)), (0, .ref v0), (1, .ref v1), (2, .int u46)] dL_agrees_271 rfl (by decide) rfl ?_
      refine Z.sub [1, 2, 3, 0] rfl (zl_L_agrees_272 hd (fun u63 h64 hf => ?_) N u46 (0 : Int32) h47 hf)
      · refine z_iload_n 2 dL_agrees_354 rfl rfl ?_
        refine z_if_eq 403 dL_agrees_355 (by decide) hf (fun hf => ?_) (fun hf => ?_)
        · refine z_iconst (0 : Int32) dL_agrees_403 (by decide) ?_
          exact z_zret dL_agrees_404 rfl (Or.inl rfl) (by cases hf; rfl)
        · refine z_aload_n 0 dL_agrees_358 rfl rfl ?_
          refine z_aload_n 1 dL_agrees_359 rfl rfl ?_
          refine z_getA dL_agrees_360 zc12 (by decide) wf_L_155 hf fun x65 hf => ?_
          refine z_alen dL_agrees_363 hf fun x66 hf => ?_
          refine z_iconst (0 : Int32) dL_agrees_364 (by decide) ?_
          refine z_cW_i (d' := d - 1) (As := [.ref v0, .int x66, .int (0 : Int32)]) (rest := []) dL_agrees_365 lk_L_239 hf (fun w1 e1 => zc_L_player (by omega) e1) (by omega) rfl rfl (Nat.le_of_ble_eq_true rfl) fun y67 hf => ?_
          refine z_ldc (-2000000097 : Int32) dL_agrees_368 wk_L_52 ?_
          refine z_icmp_ne 403 dL_agrees_370 (by decide) hf (fun hf => ?_) (fun hf => ?_)
          · refine z_aload_n 0 dL_agrees_373 rfl rfl ?_
            refine z_aload_n 1 dL_agrees_374 rfl rfl ?_
            refine z_getA dL_agrees_375 zc12 (by decide) wf_L_228 hf fun x68 hf => ?_
            refine z_alen dL_agrees_378 hf fun x69 hf => ?_
            refine z_iconst (0 : Int32) dL_agrees_379 (by decide) ?_
            refine z_cW_i (d' := d - 1) (As := [.ref v0, .int x69, .int (0 : Int32)]) (rest := []) dL_agrees_380 lk_L_249 hf (fun w1 e1 => zc_L_bid (by omega) e1) (by omega) rfl rfl (Nat.le_of_ble_eq_true rfl) fun y70 hf => ?_
            refine z_ldc (-2000000100 : Int32) dL_agrees_383 wk_L_59 ?_
            refine z_icmp_ne 403 dL_agrees_385 (by decide) hf (fun hf => ?_) (fun hf => ?_)
            · refine z_aload_n 0 dL_agrees_388 rfl rfl ?_
              refine z_bipush (9 : Int32) dL_agrees_389 (by decide) ?_
              refine z_cW_i (d' := d - 1) (As := [.ref v0, .int (9 : Int32)]) (rest := []) dL_agrees_391 lk_L_234 hf (fun w1 e1 => zc_L_state (by omega) e1) (by omega) rfl rfl (Nat.le_of_ble_eq_true rfl) fun y71 hf => ?_
              refine z_ldc (-2000000098 : Int32) dL_agrees_394 wk_L_42 ?_
              refine z_icmp_ne 403 dL_agrees_396 (by decide) hf (fun hf => ?_) (fun hf => ?_)
              · refine z_iconst (1 : Int32) dL_agrees_399 (by decide) ?_
                refine z_goto 404 dL_agrees_400 (by decide) ?_
                exact z_zret dL_agrees_404 rfl (Or.inr rfl) (by cases hf; rfl)
              · refine z_iconst (0 : Int32) dL_agrees_403 (by decide) ?_
                exact z_zret dL_agrees_404 rfl (Or.inl rfl) (by cases hf; rfl)
            · refine z_iconst (0 : Int32) dL_agrees_403 (by decide) ?_
              exact z_zret dL_agrees_404 rfl (Or.inl rfl) (by cases hf; rfl)
          · refine z_iconst (0 : Int32) dL_agrees_403 (by decide) ?_
            exact z_zret dL_agrees_404 rfl (Or.inl rfl) (by cases hf; rfl)
set_option maxRecDepth 4000 in
theorem zj_L_agrees_36 {Γ : zG} {N d : Nat} {h0 : zH} (hd : 103 ≤ d) {v0 : Nat} {v1 : Nat}  {h : zH} {w : (Int32 ⊕ Nat) × zH} (hf : f_L_agrees_j36 N v0 v1  h = some w) : Z Γ m_L_agrees d h0 (zoTI w) 36 [(0, .ref v0), (1, .ref v1)] [] h := by
  unfold f_L_agrees_j36 at hf
  refine z_iconst (0 : Int32) dL_agrees_36 (by decide) ?_
  exact Z.sub [0, 1] rfl (zj_L_agrees_37 hd hf)
set_option maxRecDepth 4000 in
theorem zc_L_agrees {Γ : zG} {N d : Nat} (hd : 103 ≤ d) {p1 : Nat} {p2 : Nat} {h : zH} {w : (Int32 ⊕ Nat) × zH} (hf : f_L_agrees N p1 p2 h = some w) : Zm Γ m_L_agrees d [.ref p1, .ref p2] h (zoTI w) := by
  unfold f_L_agrees at hf
  refine z_meth rfl (plainFor_of_name wpl_L) (by simp [lg_sl, Value.category, zml, m_L_agrees]) ?_
  refine z_aload_n 0 dL_agrees_0 rfl rfl ?_
  refine z_cV_tj (d' := d - 1) (As := []) (rest := []) dL_agrees_1 lk_L_218 rfl hf (fun w1 e1 => zc_X8_checksum (by omega) e1) (by omega) rfl rfl (Nat.le_of_ble_eq_true rfl) (fun y1 x2 hf => ?_) (fun y1 k3 hf => ?_)
  · refine z_aload_n 1 dL_agrees_4 rfl rfl ?_
    refine z_cV_j (d' := d - 1) (As := []) (rest := [.long x2]) dL_agrees_5 lk_L_222 rfl hf (fun w1 e1 => zc_X12_sum (by omega) e1) (by omega) rfl rfl (Nat.le_of_ble_eq_true rfl) fun y4 hf => ?_
    refine z_lcmp dL_agrees_8 ?_
    refine z_if_ne 36 dL_agrees_9 (by decide) hf (fun hf => ?_) (fun hf => ?_)
    · refine z_aload_n 0 dL_agrees_12 rfl rfl ?_
      refine z_cV_i (d' := d - 1) (As := []) (rest := []) dL_agrees_13 lk_L_225 rfl hf (fun w1 e1 => zc_X8_product (by omega) e1) (by omega) rfl rfl (Nat.le_of_ble_eq_true rfl) fun y72 hf => ?_
      refine z_aload_n 1 dL_agrees_16 rfl rfl ?_
      refine z_iconst (0 : Int32) dL_agrees_17 (by decide) ?_
      refine z_aload_n 1 dL_agrees_18 rfl rfl ?_
      refine z_getA dL_agrees_19 zc12 (by decide) wf_L_228 hf fun x73 hf => ?_
      refine z_alen dL_agrees_22 hf fun x74 hf => ?_
      refine z_cV_a (d' := d - 1) (As := [.int (0 : Int32), .int x74]) (rest := [.int y72.1]) dL_agrees_23 lk_L_231 rfl hf (fun w1 e1 => zc_X12_product (by omega) e1) (by omega) rfl rfl (Nat.le_of_ble_eq_true rfl) fun y75 hf => ?_
      refine z_cS_i (d' := d - 1) (As := [.ref y75.1]) (rest := [.int y72.1]) dL_agrees_26 lk_L_185 hf (fun w1 e1 => zc_L_number (by omega) e1) (by omega) rfl rfl (Nat.le_of_ble_eq_true rfl) fun y76 hf => ?_
      refine z_icmp_ne 36 dL_agrees_29 (by decide) hf (fun hf => ?_) (fun hf => ?_)
      · refine z_iconst (1 : Int32) dL_agrees_32 (by decide) ?_
        refine z_goto 37 dL_agrees_33 (by decide) ?_
        exact Z.sub [0, 1] rfl (zj_L_agrees_37 hd hf)
      · exact Z.sub [0, 1] rfl (zj_L_agrees_36 hd hf)
    · exact Z.sub [0, 1] rfl (zj_L_agrees_36 hd hf)
  · exact zx_out rfl (by cases hf; rfl)

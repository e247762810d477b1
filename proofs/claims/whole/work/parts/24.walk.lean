set_option maxRecDepth 4000 in
theorem zl_X9_term_4 {Γ : zG} {N d : Nat} {h0 : zH} {rs : Nat → zH → Option (zH)} {dr : Nat} (hrs : ∀ (a : Nat) (h : zH) (w : zH), rs a h = some w → Zm Γ m_X9_sum dr [.ref a] h (zoV w)) (hd : 23 ≤ d ∧ dr + 2 ≤ d) {v0 : Nat}  {w : zH}   : ∀ (n : Nat)  (h : zH), f_X9_term_l4 N rs v0 n  h = some w → Z Γ m_X9_term d h0 (zoV w) 4 [(0, .ref v0)] [] h := by
  intro n
  induction n with
  | zero => intro  h hf; cases hf
  | succ n ih =>
    intro  h hf
    rw [f_X9_term_l4] at hf
    refine z_aload_n 0 dX9_term_4 rfl rfl ?_
    refine z_cV_i (d' := d - 1) (As := []) (rest := []) dX9_term_5 lk_X9_83 rfl hf (fun w1 e1 => zc_X9_isGood (by omega) e1) (by omega) rfl rfl (Nat.le_of_ble_eq_true rfl) fun y2 hf => ?_
    refine z_if_eq 74 dX9_term_8 (by decide) hf (fun hf => ?_) (fun hf => ?_)
    · exact z_vret dX9_term_74 rfl (by cases hf; rfl)
    · refine z_aload_n 0 dX9_term_11 rfl rfl ?_
      refine z_cV_i (d' := d - 1) (As := []) (rest := []) dX9_term_12 lk_X9_87 rfl hf (fun w1 e1 => zc_X9_next (by omega) e1) (by omega) rfl rfl (Nat.le_of_ble_eq_true rfl) fun y3 hf => ?_
      refine z_bipush (42 : Int32) dX9_term_15 (by decide) ?_
      refine zjn_elim (P := fun (j29 : zH → Option (zH)) => ∀ (h : zH), j29 h = some w → Z Γ m_X9_term d h0 (zoV w) 29 [(0, .ref v0)] [] h) hf (fun h hf => ?_) (fun j29 hj29 hf => ?_)
      · refine z_aload_n 0 dX9_term_29 rfl rfl ?_
        refine z_cV_i (d' := d - 1) (As := []) (rest := []) dX9_term_30 lk_X9_87 rfl hf (fun w1 e1 => zc_X9_next (by omega) e1) (by omega) rfl rfl (Nat.le_of_ble_eq_true rfl) fun y5 hf => ?_
        refine z_bipush (42 : Int32) dX9_term_33 (by decide) ?_
        refine zjn_elim (P := fun (j43 : Int32 → zH → Option (zH)) => ∀ (s0 : Int32) (h : zH), j43 s0 h = some w → Z Γ m_X9_term d h0 (zoV w) 43 [(0, .ref v0)] [.int s0] h) hf (fun s0 h hf => ?_) (fun j43 hj43 hf => ?_)
        · refine z_istore_n [(1, .int s0), (0, .ref v0)] dX9_term_43 rfl (by decide) rfl ?_
          refine z_aload_n 1 dX9_term_44 rfl rfl ?_
          refine z_dup dX9_term_45 rfl ?_
          refine z_getI dX9_term_46 zc9 (by decide) wf_X9_67 hf fun x6 hf => ?_
          refine z_iconst (1 : Int32) dX9_term_49 (by decide) ?_
          refine z_iadd dX9_term_50 ?_
          refine z_putB dX9_term_51 zc9 (by decide) wf_X9_67 (Or.inl rfl) rfl rfl hf fun h7 hf => ?_
          refine z_aload_n 1 dX9_term_54 rfl rfl ?_
          refine z_cV_v (d' := d - 1) (As := []) (rest := []) dX9_term_55 lk_X9_144 rfl hf (fun w1 e1 => zc_X9_factor hrs ⟨by omega, by omega⟩ e1) (by omega) rfl rfl (Nat.le_of_ble_eq_true rfl) fun y8 hf => ?_
          refine z_aload_n 1 dX9_term_58 rfl rfl ?_
          refine z_iload_n 0 dX9_term_59 rfl rfl ?_
          refine zjn_elim (P := fun (j68 : Nat → Int32 → zH → Option (zH)) => ∀ (s0 : Nat) (s1 : Int32) (h : zH), j68 s0 s1 h = some w → Z Γ m_X9_term d h0 (zoV w) 68 [(0, .ref v0)] [.int s1, .ref s0] h) hf (fun s0 s1 h hf => ?_) (fun j68 hj68 hf => ?_)
          · refine z_cV_v (d' := d - 1) (As := [.int s1]) (rest := []) dX9_term_68 lk_X9_141 rfl hf (fun w1 e1 => zc_X9_emit (by omega) e1) (by omega) rfl rfl (Nat.le_of_ble_eq_true rfl) fun y9 hf => ?_
            refine z_goto 4 dX9_term_71 (by decide) ?_
            exact Z.sub [0] rfl (ih y9 hf)
          · refine z_if_eq 67 dX9_term_60 (by decide) hf (fun hf => ?_) (fun hf => ?_)
            · refine z_iconst (5 : Int32) dX9_term_67 (by decide) ?_
              exact Z.sub [1] rfl (hj68 v0 (5 : Int32) y8 hf)
            · refine z_iconst (4 : Int32) dX9_term_63 (by decide) ?_
              refine z_goto 68 dX9_term_64 (by decide) ?_
              exact Z.sub [1] rfl (hj68 v0 (4 : Int32) y8 hf)
        · refine z_icmp_ne 42 dX9_term_35 (by decide) hf (fun hf => ?_) (fun hf => ?_)
          · refine z_iconst (1 : Int32) dX9_term_38 (by decide) ?_
            refine z_goto 43 dX9_term_39 (by decide) ?_
            exact Z.sub [0] rfl (hj43 (1 : Int32) y5.2 hf)
          · refine z_iconst (0 : Int32) dX9_term_42 (by decide) ?_
            exact Z.sub [0] rfl (hj43 (0 : Int32) y5.2 hf)
      · refine z_icmp_eq 29 dX9_term_17 (by decide) hf (fun hf => ?_) (fun hf => ?_)
        · exact Z.sub [0] rfl (hj29 y3.2 hf)
        · refine z_aload_n 0 dX9_term_20 rfl rfl ?_
          refine z_cV_i (d' := d - 1) (As := []) (rest := []) dX9_term_21 lk_X9_87 rfl hf (fun w1 e1 => zc_X9_next (by omega) e1) (by omega) rfl rfl (Nat.le_of_ble_eq_true rfl) fun y4 hf => ?_
          refine z_bipush (47 : Int32) dX9_term_24 (by decide) ?_
          refine z_icmp_ne 74 dX9_term_26 (by decide) hf (fun hf => ?_) (fun hf => ?_)
          · exact Z.sub [0] rfl (hj29 y4.2 hf)
          · exact z_vret dX9_term_74 rfl (by cases hf; rfl)
set_option maxRecDepth 4000 in
theorem zc_X9_term {Γ : zG} {N d : Nat} {rs : Nat → zH → Option (zH)} {dr : Nat} (hrs : ∀ (a : Nat) (h : zH) (w : zH), rs a h = some w → Zm Γ m_X9_sum dr [.ref a] h (zoV w)) (hd : 23 ≤ d ∧ dr + 2 ≤ d) {a : Nat} {h : zH} {w : zH} (hf : f_X9_term N rs a h = some w) : Zm Γ m_X9_term d [.ref a] h (zoV w) := by
  unfold f_X9_term at hf
  refine z_meth rfl (plainFor_of_name wpl_X9) (by simp [lg_sl, Value.category, zml, m_X9_term]) ?_
  refine z_aload_n 0 dX9_term_0 rfl rfl ?_
  refine z_cV_v (d' := d - 1) (As := []) (rest := []) dX9_term_1 lk_X9_144 rfl hf (fun w1 e1 => zc_X9_factor hrs ⟨by omega, by omega⟩ e1) (by omega) rfl rfl (Nat.le_of_ble_eq_true rfl) fun y1 hf => ?_
  refine Z.sub [0] rfl (zl_X9_term_4 hrs hd  N y1 hf)
set_option maxRecDepth 4000 in
theorem zl_X9_sum_4 {Γ : zG} {N d : Nat} {h0 : zH} {rs : Nat → zH → Option (zH)} {dr : Nat} (hrs : ∀ (a : Nat) (h : zH) (w : zH), rs a h = some w → Zm Γ m_X9_sum dr [.ref a] h (zoV w)) (hd : 24 ≤ d ∧ dr + 3 ≤ d) {v0 : Nat}  {w : zH}   : ∀ (n : Nat)  (h : zH), f_X9_sum_l4 N rs v0 n  h = some w → Z Γ m_X9_sum d h0 (zoV w) 4 [(0, .ref v0)] [] h := by
  intro n
  induction n with
  | zero => intro  h hf; cases hf
  | succ n ih =>
    intro  h hf
    rw [f_X9_sum_l4] at hf
    refine z_aload_n 0 dX9_sum_4 rfl rfl ?_
    refine z_cV_i (d' := d - 1) (As := []) (rest := []) dX9_sum_5 lk_X9_83 rfl hf (fun w1 e1 => zc_X9_isGood (by omega) e1) (by omega) rfl rfl (Nat.le_of_ble_eq_true rfl) fun y2 hf => ?_
    refine z_if_eq 74 dX9_sum_8 (by decide) hf (fun hf => ?_) (fun hf => ?_)
    · exact z_vret dX9_sum_74 rfl (by cases hf; rfl)
    · refine z_aload_n 0 dX9_sum_11 rfl rfl ?_
      refine z_cV_i (d' := d - 1) (As := []) (rest := []) dX9_sum_12 lk_X9_87 rfl hf (fun w1 e1 => zc_X9_next (by omega) e1) (by omega) rfl rfl (Nat.le_of_ble_eq_true rfl) fun y3 hf => ?_
      refine z_bipush (43 : Int32) dX9_sum_15 (by decide) ?_
      refine zjn_elim (P := fun (j29 : zH → Option (zH)) => ∀ (h : zH), j29 h = some w → Z Γ m_X9_sum d h0 (zoV w) 29 [(0, .ref v0)] [] h) hf (fun h hf => ?_) (fun j29 hj29 hf => ?_)
      · refine z_aload_n 0 dX9_sum_29 rfl rfl ?_
        refine z_cV_i (d' := d - 1) (As := []) (rest := []) dX9_sum_30 lk_X9_87 rfl hf (fun w1 e1 => zc_X9_next (by omega) e1) (by omega) rfl rfl (Nat.le_of_ble_eq_true rfl) fun y5 hf => ?_
        refine z_bipush (43 : Int32) dX9_sum_33 (by decide) ?_
        refine zjn_elim (P := fun (j43 : Int32 → zH → Option (zH)) => ∀ (s0 : Int32) (h : zH), j43 s0 h = some w → Z Γ m_X9_sum d h0 (zoV w) 43 [(0, .ref v0)] [.int s0] h) hf (fun s0 h hf => ?_) (fun j43 hj43 hf => ?_)
        · refine z_istore_n [(1, .int s0), (0, .ref v0)] dX9_sum_43 rfl (by decide) rfl ?_
          refine z_aload_n 1 dX9_sum_44 rfl rfl ?_
          refine z_dup dX9_sum_45 rfl ?_
          refine z_getI dX9_sum_46 zc9 (by decide) wf_X9_67 hf fun x6 hf => ?_
          refine z_iconst (1 : Int32) dX9_sum_49 (by decide) ?_
          refine z_iadd dX9_sum_50 ?_
          refine z_putB dX9_sum_51 zc9 (by decide) wf_X9_67 (Or.inl rfl) rfl rfl hf fun h7 hf => ?_
          refine z_aload_n 1 dX9_sum_54 rfl rfl ?_
          refine z_cV_v (d' := d - 1) (As := []) (rest := []) dX9_sum_55 lk_X9_147 rfl hf (fun w1 e1 => zc_X9_term hrs ⟨by omega, by omega⟩ e1) (by omega) rfl rfl (Nat.le_of_ble_eq_true rfl) fun y8 hf => ?_
          refine z_aload_n 1 dX9_sum_58 rfl rfl ?_
          refine z_iload_n 0 dX9_sum_59 rfl rfl ?_
          refine zjn_elim (P := fun (j68 : Nat → Int32 → zH → Option (zH)) => ∀ (s0 : Nat) (s1 : Int32) (h : zH), j68 s0 s1 h = some w → Z Γ m_X9_sum d h0 (zoV w) 68 [(0, .ref v0)] [.int s1, .ref s0] h) hf (fun s0 s1 h hf => ?_) (fun j68 hj68 hf => ?_)
          · refine z_cV_v (d' := d - 1) (As := [.int s1]) (rest := []) dX9_sum_68 lk_X9_141 rfl hf (fun w1 e1 => zc_X9_emit (by omega) e1) (by omega) rfl rfl (Nat.le_of_ble_eq_true rfl) fun y9 hf => ?_
            refine z_goto 4 dX9_sum_71 (by decide) ?_
            exact Z.sub [0] rfl (ih y9 hf)
          · refine z_if_eq 67 dX9_sum_60 (by decide) hf (fun hf => ?_) (fun hf => ?_)
            · refine z_iconst (3 : Int32) dX9_sum_67 (by decide) ?_
              exact Z.sub [1] rfl (hj68 v0 (3 : Int32) y8 hf)
            · refine z_iconst (2 : Int32) dX9_sum_63 (by decide) ?_
              refine z_goto 68 dX9_sum_64 (by decide) ?_
              exact Z.sub [1] rfl (hj68 v0 (2 : Int32) y8 hf)
        · refine z_icmp_ne 42 dX9_sum_35 (by decide) hf (fun hf => ?_) (fun hf => ?_)
          · refine z_iconst (1 : Int32) dX9_sum_38 (by decide) ?_
            refine z_goto 43 dX9_sum_39 (by decide) ?_
            exact Z.sub [0] rfl (hj43 (1 : Int32) y5.2 hf)
          · refine z_iconst (0 : Int32) dX9_sum_42 (by decide) ?_
            exact Z.sub [0] rfl (hj43 (0 : Int32) y5.2 hf)
      · refine z_icmp_eq 29 dX9_sum_17 (by decide) hf (fun hf => ?_) (fun hf => ?_)
        · exact Z.sub [0] rfl (hj29 y3.2 hf)
        · refine z_aload_n 0 dX9_sum_20 rfl rfl ?_
          refine z_cV_i (d' := d - 1) (As := []) (rest := []) dX9_sum_21 lk_X9_87 rfl hf (fun w1 e1 => zc_X9_next (by omega) e1) (by omega) rfl rfl (Nat.le_of_ble_eq_true rfl) fun y4 hf => ?_
          refine z_bipush (45 : Int32) dX9_sum_24 (by decide) ?_
          refine z_icmp_ne 74 dX9_sum_26 (by decide) hf (fun hf => ?_) (fun hf => ?_)
          · exact Z.sub [0] rfl (hj29 y4.2 hf)
          · exact z_vret dX9_sum_74 rfl (by cases hf; rfl)
set_option maxRecDepth 4000 in
theorem zc_X9_sum {Γ : zG} {N d : Nat} {rs : Nat → zH → Option (zH)} {dr : Nat} (hrs : ∀ (a : Nat) (h : zH) (w : zH), rs a h = some w → Zm Γ m_X9_sum dr [.ref a] h (zoV w)) (hd : 24 ≤ d ∧ dr + 3 ≤ d) {a : Nat} {h : zH} {w : zH} (hf : f_X9_sum N rs a h = some w) : Zm Γ m_X9_sum d [.ref a] h (zoV w) := by
  unfold f_X9_sum at hf
  refine z_meth rfl (plainFor_of_name wpl_X9) (by simp [lg_sl, Value.category, zml, m_X9_sum]) ?_
  refine z_aload_n 0 dX9_sum_0 rfl rfl ?_
  refine z_cV_v (d' := d - 1) (As := []) (rest := []) dX9_sum_1 lk_X9_147 rfl hf (fun w1 e1 => zc_X9_term hrs ⟨by omega, by omega⟩ e1) (by omega) rfl rfl (Nat.le_of_ble_eq_true rfl) fun y1 hf => ?_
  refine Z.sub [0] rfl (zl_X9_sum_4 hrs hd  N y1 hf)
theorem zc_X9_sumN {Γ : zG} {N n d : Nat} (hd : 60 + 4 * n ≤ d) {a : Nat} {h : zH} {w : zH} (hf : f_X9_sumN N n a h = some w) : Zm Γ m_X9_sum d [.ref a] h (zoV w) := by
  induction n generalizing d a h w with
  | zero => cases hf
  | succ n ih =>
    rw [f_X9_sumN] at hf
    exact zc_X9_sum (dr := d - 4) (fun a h w e => ih (by omega) e) ⟨by omega, by omega⟩ hf
set_option maxRecDepth 4000 in
theorem zj_X9_statement_97 {Γ : zG} {N d : Nat} {h0 : zH} (hd : 101 ≤ d) {v0 : Nat}  {h : zH} {w : zH} (hf : f_X9_statement_j97 N v0  h = some w) : Z Γ m_X9_statement d h0 (zoV w) 97 [(0, .ref v0)] [] h := by
  unfold f_X9_statement_j97 at hf
  refine z_aload_n 0 dX9_statement_97 rfl rfl ?_
  refine z_bipush (59 : Int32) dX9_statement_98 (by decide) ?_
  refine z_cV_v (d' := d - 1) (As := [.int (59 : Int32)]) (rest := []) dX9_statement_100 lk_X9_122 rfl hf (fun w1 e1 => zc_X9_expect (by omega) e1) (by omega) rfl rfl (Nat.le_of_ble_eq_true rfl) fun y8 hf => ?_
  exact z_vret dX9_statement_103 rfl (by cases hf; rfl)
set_option maxRecDepth 4000 in
theorem zc_X9_statement {Γ : zG} {N d : Nat} (hd : 101 ≤ d) {a : Nat} {h : zH} {w : zH} (hf : f_X9_statement N a h = some w) : Zm Γ m_X9_statement d [.ref a] h (zoV w) := by
  unfold f_X9_statement at hf
  refine z_meth rfl (plainFor_of_name wpl_X9) (by simp [lg_sl, Value.category, zml, m_X9_statement]) ?_
  refine z_aload_n 0 dX9_statement_0 rfl rfl ?_
  refine z_cV_i (d' := d - 1) (As := []) (rest := []) dX9_statement_1 lk_X9_87 rfl hf (fun w1 e1 => zc_X9_next (by omega) e1) (by omega) rfl rfl (Nat.le_of_ble_eq_true rfl) fun y1 hf => ?_
  refine z_pop dX9_statement_4 rfl ?_
  refine z_aload_n 0 dX9_statement_5 rfl rfl ?_
  refine z_getI dX9_statement_6 zc9 (by decide) wf_X9_67 hf fun x2 hf => ?_
  refine z_istore_n [(1, .int x2), (0, .ref a)] dX9_statement_9 rfl (by decide) rfl ?_
  refine z_aload_n 1 dX9_statement_10 rfl rfl ?_
  refine z_ldcS9 (i := 1) (by decide) rfl rfl dX9_statement_11 ?_
  refine z_cV_i (d' := d - 1) (As := [.ref (zKa Γ 1)]) (rest := []) dX9_statement_13 lk_X9_128 rfl hf (fun w1 e1 => zc_X9_takeWord (by omega) e1) (by omega) rfl rfl (Nat.le_of_ble_eq_true rfl) fun y3 hf => ?_
  refine z_if_eq 27 dX9_statement_16 (by decide) hf (fun hf => ?_) (fun hf => ?_)
  · refine z_aload_n 1 dX9_statement_27 rfl rfl ?_
    refine z_ldcS9 (i := 2) (by decide) rfl rfl dX9_statement_28 ?_
    refine z_cV_i (d' := d - 1) (As := [.ref (zKa Γ 2)]) (rest := []) dX9_statement_30 lk_X9_128 rfl hf (fun w1 e1 => zc_X9_takeWord (by omega) e1) (by omega) rfl rfl (Nat.le_of_ble_eq_true rfl) fun y4 hf => ?_
    refine z_if_eq 43 dX9_statement_33 (by decide) hf (fun hf => ?_) (fun hf => ?_)
    · refine z_aload_n 1 dX9_statement_43 rfl rfl ?_
      refine z_ldcS9 (i := 3) (by decide) rfl rfl dX9_statement_44 ?_
      refine z_cV_i (d' := d - 1) (As := [.ref (zKa Γ 3)]) (rest := []) dX9_statement_46 lk_X9_128 rfl hf (fun w1 e1 => zc_X9_takeWord (by omega) e1) (by omega) rfl rfl (Nat.le_of_ble_eq_true rfl) fun y5 hf => ?_
      refine z_if_eq 60 dX9_statement_49 (by decide) hf (fun hf => ?_) (fun hf => ?_)
      · refine z_aload_n 1 dX9_statement_60 rfl rfl ?_
        refine z_ldcS9 (i := 4) (by decide) rfl rfl dX9_statement_61 ?_
        refine z_cV_i (d' := d - 1) (As := [.ref (zKa Γ 4)]) (rest := []) dX9_statement_63 lk_X9_128 rfl hf (fun w1 e1 => zc_X9_takeWord (by omega) e1) (by omega) rfl rfl (Nat.le_of_ble_eq_true rfl) fun y6 hf => ?_
        refine z_if_eq 90 dX9_statement_66 (by decide) hf (fun hf => ?_) (fun hf => ?_)
        · refine z_aload_n 1 dX9_statement_90 rfl rfl ?_
          refine z_bipush (-2 : Int32) dX9_statement_91 (by decide) ?_
          refine z_iload_n 0 dX9_statement_93 rfl rfl ?_
          refine z_cV_v (d' := d - 1) (As := [.int (-2 : Int32), .int x2]) (rest := []) dX9_statement_94 lk_X9_100 rfl hf (fun w1 e1 => zc_X9_report (by omega) e1) (by omega) rfl rfl (Nat.le_of_ble_eq_true rfl) fun y7 hf => ?_
          exact Z.sub [1] rfl (zj_X9_statement_97 hd hf)
        · refine z_aload_n 1 dX9_statement_69 rfl rfl ?_
          refine z_iconst (0 : Int32) dX9_statement_70 (by decide) ?_
          refine z_iload_n 0 dX9_statement_71 rfl rfl ?_
          refine z_cV_v (d' := d - 1) (As := [.int (0 : Int32), .int x2]) (rest := []) dX9_statement_72 lk_X9_182 rfl hf (fun w1 e1 => zc_X9_once (by omega) e1) (by omega) rfl rfl (Nat.le_of_ble_eq_true rfl) fun y9 hf => ?_
          refine z_aload_n 1 dX9_statement_75 rfl rfl ?_
          refine z_getA dX9_statement_76 zc9 (by decide) wf_X9_20 hf fun x10 hf => ?_
          refine z_bipush (9 : Int32) dX9_statement_79 (by decide) ?_
          refine z_iconst (1 : Int32) dX9_statement_81 (by decide) ?_
          refine z_iastore dX9_statement_82 hf fun h11 hf => ?_
          refine z_aload_n 1 dX9_statement_83 rfl rfl ?_
          refine z_cV_v (d' := d - 1) (As := []) (rest := []) dX9_statement_84 lk_X9_119 rfl hf (fun w1 e1 => zc_X9_sumN (by omega) e1) (by omega) rfl rfl (Nat.le_of_ble_eq_true rfl) fun y12 hf => ?_
          refine z_goto 97 dX9_statement_87 (by decide) ?_
          exact Z.sub [1] rfl (zj_X9_statement_97 hd hf)
      · refine z_aload_n 1 dX9_statement_52 rfl rfl ?_
        refine z_iload_n 0 dX9_statement_53 rfl rfl ?_
        refine z_cV_v (d' := d - 1) (As := [.int x2]) (rest := []) dX9_statement_54 lk_X9_177 rfl hf (fun w1 e1 => zc_X9_readLot (by omega) e1) (by omega) rfl rfl (Nat.le_of_ble_eq_true rfl) fun y13 hf => ?_
        refine z_goto 97 dX9_statement_57 (by decide) ?_
        exact Z.sub [1] rfl (zj_X9_statement_97 hd hf)
    · refine z_aload_n 1 dX9_statement_36 rfl rfl ?_
      refine z_cV_v (d' := d - 1) (As := []) (rest := []) dX9_statement_37 lk_X9_172 rfl hf (fun w1 e1 => zc_X9_readCard (by omega) e1) (by omega) rfl rfl (Nat.le_of_ble_eq_true rfl) fun y14 hf => ?_
      refine z_goto 97 dX9_statement_40 (by decide) ?_
      exact Z.sub [1] rfl (zj_X9_statement_97 hd hf)
  · refine z_aload_n 1 dX9_statement_19 rfl rfl ?_
    refine z_iload_n 0 dX9_statement_20 rfl rfl ?_
    refine z_cV_v (d' := d - 1) (As := [.int x2]) (rest := []) dX9_statement_21 lk_X9_167 rfl hf (fun w1 e1 => zc_X9_readPlayer (by omega) e1) (by omega) rfl rfl (Nat.le_of_ble_eq_true rfl) fun y15 hf => ?_
    refine z_goto 97 dX9_statement_24 (by decide) ?_
    exact Z.sub [1] rfl (zj_X9_statement_97 hd hf)
set_option maxRecDepth 4000 in
theorem zl_X9_copy_2 {Γ : zG} {N d : Nat} {h0 : zH} (hd : 10 ≤ d) {v0 : Nat} {v1 : Nat}  {w : zH}   : ∀ (n : Nat) (v2 : Int32) (h : zH), f_X9_copy_l2 N v0 v1 n v2 h = some w → Z Γ m_X9_copy d h0 (zoV w) 2 [(0, .ref v0), (1, .ref v1), (2, .int v2)] [] h := by
  intro n
  induction n with
  | zero => intro v2 h hf; cases hf
  | succ n ih =>
    intro v2 h hf
    rw [f_X9_copy_l2] at hf
    refine z_iload_n 2 dX9_copy_2 rfl rfl ?_
    refine z_sipush (1378 : Int32) dX9_copy_3 (by decide) ?_
    refine z_icmp_ge 21 dX9_copy_6 (by decide) hf (fun hf => ?_) (fun hf => ?_)
    · exact z_vret dX9_copy_21 rfl (by cases hf; rfl)
    · refine z_aload_n 1 dX9_copy_9 rfl rfl ?_
      refine z_iload_n 2 dX9_copy_10 rfl rfl ?_
      refine z_aload_n 0 dX9_copy_11 rfl rfl ?_
      refine z_iload_n 2 dX9_copy_12 rfl rfl ?_
      refine z_iaload dX9_copy_13 hf fun x1 hf => ?_
      refine z_iastore dX9_copy_14 hf fun h2 hf => ?_
      refine z_iinc (v2 + (1 : Int32)) 2 [(2, .int (v2 + (1 : Int32))), (0, .ref v0), (1, .ref v1)] dX9_copy_15 rfl rfl (by decide) rfl ?_
      refine z_goto 2 dX9_copy_18 (by decide) ?_
      exact Z.sub [1, 2, 0] rfl (ih (v2 + (1 : Int32)) h2 hf)
set_option maxRecDepth 4000 in
theorem zc_X9_copy {Γ : zG} {N d : Nat} (hd : 10 ≤ d) {p1 : Nat} {p2 : Nat} {h : zH} {w : zH} (hf : f_X9_copy N p1 p2 h = some w) : Zm Γ m_X9_copy d [.ref p1, .ref p2] h (zoV w) := by
  unfold f_X9_copy at hf
  refine z_meth rfl (plainFor_of_name wpl_X9) (by simp [lg_sl, Value.category, zml, m_X9_copy]) ?_
  refine z_iconst (0 : Int32) dX9_copy_0 (by decide) ?_
  refine z_istore_n [(2, .int (0 : Int32)), (0, .ref p1), (1, .ref p2)] dX9_copy_1 rfl (by decide) rfl ?_
  refine Z.sub [1, 2, 0] rfl (zl_X9_copy_2 hd  N (0 : Int32) h hf)
set_option maxRecDepth 4000 in
theorem zj_X9_remember_50 {Γ : zG} {N d : Nat} {h0 : zH} (hd : 11 ≤ d) {v0 : Nat}  {h : zH} {w : zH} (hf : f_X9_remember_j50 N v0  h = some w) : Z Γ m_X9_remember d h0 (zoV w) 50 [(0, .ref v0)] [] h := by
  unfold f_X9_remember_j50 at hf
  refine z_aload_n 0 dX9_remember_50 rfl rfl ?_
  refine z_getA dX9_remember_51 zc9 (by decide) wf_X9_17 hf fun x2 hf => ?_
  refine z_aload_n 0 dX9_remember_54 rfl rfl ?_
  refine z_getA dX9_remember_55 zc9 (by decide) wf_X9_25 hf fun x3 hf => ?_
  refine z_aload_n 0 dX9_remember_58 rfl rfl ?_
  refine z_getI dX9_remember_59 zc9 (by decide) wf_X9_285 hf fun x4 hf => ?_
  refine z_aaload dX9_remember_62 hf fun x5 hf => ?_
  refine z_cS_v (d' := d - 1) (As := [.ref x2, .ref x5]) (rest := []) dX9_remember_63 lk_X9_197 hf (fun w1 e1 => zc_X9_copy (by omega) e1) (by omega) rfl rfl (Nat.le_of_ble_eq_true rfl) fun y6 hf => ?_
  refine z_aload_n 0 dX9_remember_66 rfl rfl ?_
  refine z_dup dX9_remember_67 rfl ?_
  refine z_getI dX9_remember_68 zc9 (by decide) wf_X9_285 hf fun x7 hf => ?_
  refine z_iconst (1 : Int32) dX9_remember_71 (by decide) ?_
  refine z_iadd dX9_remember_72 ?_
  refine z_putB dX9_remember_73 zc9 (by decide) wf_X9_285 (Or.inl rfl) rfl rfl hf fun h8 hf => ?_
  exact z_vret dX9_remember_76 rfl (by cases hf; rfl)
set_option maxRecDepth 4000 in
theorem zl_X9_remember_11 {Γ : zG} {N d : Nat} {h0 : zH} (hd : 11 ≤ d) {v0 : Nat} {k1 : zH → Option (zH)} {w : zH}  (hk1 : ∀ (h : zH), k1 h = some w → Z Γ m_X9_remember d h0 (zoV w) 40 [(0, .ref v0)] [] h) : ∀ (n : Nat) (v1 : Int32) (h : zH), f_X9_remember_l11 N v0 k1 n v1 h = some w → Z Γ m_X9_remember d h0 (zoV w) 11 [(0, .ref v0), (1, .int v1)] [] h := by
  intro n
  induction n with
  | zero => intro v1 h hf; cases hf
  | succ n ih =>
    intro v1 h hf
    rw [f_X9_remember_l11] at hf
    refine z_iload_n 1 dX9_remember_11 rfl rfl ?_
    refine z_bipush (8 : Int32) dX9_remember_12 (by decide) ?_
    refine z_icmp_ge 40 dX9_remember_14 (by decide) hf (fun hf => ?_) (fun hf => ?_)
    · exact Z.sub [0] rfl (hk1 h hf)
    · refine z_aload_n 0 dX9_remember_17 rfl rfl ?_
      refine z_getA dX9_remember_18 zc9 (by decide) wf_X9_25 hf fun x9 hf => ?_
      refine z_iload_n 1 dX9_remember_21 rfl rfl ?_
      refine z_aaload dX9_remember_22 hf fun x10 hf => ?_
      refine z_aload_n 0 dX9_remember_23 rfl rfl ?_
      refine z_getA dX9_remember_24 zc9 (by decide) wf_X9_25 hf fun x11 hf => ?_
      refine z_iload_n 1 dX9_remember_27 rfl rfl ?_
      refine z_iconst (1 : Int32) dX9_remember_28 (by decide) ?_
      refine z_isub dX9_remember_29 ?_
      refine z_aaload dX9_remember_30 hf fun x12 hf => ?_
      refine z_cS_v (d' := d - 1) (As := [.ref x10, .ref x12]) (rest := []) dX9_remember_31 lk_X9_197 hf (fun w1 e1 => zc_X9_copy (by omega) e1) (by omega) rfl rfl (Nat.le_of_ble_eq_true rfl) fun y13 hf => ?_
      refine z_iinc (v1 + (1 : Int32)) 1 [(1, .int (v1 + (1 : Int32))), (0, .ref v0)] dX9_remember_34 rfl rfl (by decide) rfl ?_
      refine z_goto 11 dX9_remember_37 (by decide) ?_
      exact Z.sub [1, 0] rfl (ih (v1 + (1 : Int32)) y13 hf)
set_option maxRecDepth 4000 in
theorem zc_X9_remember {Γ : zG} {N d : Nat} (hd : 11 ≤ d) {a : Nat} {h : zH} {w : zH} (hf : f_X9_remember N a h = some w) : Zm Γ m_X9_remember d [.ref a] h (zoV w) := by
  unfold f_X9_remember at hf
  refine z_meth rfl (plainFor_of_name wpl_X9) (by simp [lg_sl, Value.category, zml, m_X9_remember]) ?_
  refine z_aload_n 0 dX9_remember_0 rfl rfl ?_
  refine z_getI dX9_remember_1 zc9 (by decide) wf_X9_285 hf fun x1 hf => ?_
  refine z_bipush (8 : Int32) dX9_remember_4 (by decide) ?_
  refine z_icmp_ne 50 dX9_remember_6 (by decide) hf (fun hf => ?_) (fun hf => ?_)
  · refine z_iconst (1 : Int32) dX9_remember_9 (by decide) ?_
    refine z_istore_n [(1, .int (1 : Int32)), (0, .ref a)] dX9_remember_10 rfl (by decide) rfl ?_
    refine Z.sub [1, 0] rfl (zl_X9_remember_11 hd (fun h14 hf => ?_) N (1 : Int32) h hf)
    · refine z_aload_n 0 dX9_remember_40 rfl rfl ?_
      refine z_dup dX9_remember_41 rfl ?_
      refine z_getI dX9_remember_42 zc9 (by decide) wf_X9_285 hf fun x15 hf => ?_
      refine z_iconst (1 : Int32) dX9_remember_45 (by decide) ?_
      refine z_isub dX9_remember_46 ?_
      refine z_putB dX9_remember_47 zc9 (by decide) wf_X9_285 (Or.inl rfl) rfl rfl hf fun h16 hf => ?_
      exact Z.sub [0] rfl (zj_X9_remember_50 hd hf)
  · exact Z.sub [0] rfl (zj_X9_remember_50 hd hf)
set_option maxRecDepth 4000 in
theorem zl_X9_load_69 {Γ : zG} {N d : Nat} {h0 : zH} (hd : 102 ≤ d) {v0 : Nat} {k1 : zH → Option (Int32 × zH)} {w : Int32 × zH}  (hk1 : ∀ (h : zH), k1 h = some w → Z Γ m_X9_load d h0 (zoI w) 89 [(0, .ref v0)] [] h) : ∀ (n : Nat) (v2 : Int32) (h : zH), f_X9_load_l69 N v0 k1 n v2 h = some w → Z Γ m_X9_load d h0 (zoI w) 69 [(0, .ref v0), (2, .int v2)] [] h := by
  intro n
  induction n with
  | zero => intro v2 h hf; cases hf
  | succ n ih =>
    intro v2 h hf
    rw [f_X9_load_l69] at hf
    refine z_iload_n 1 dX9_load_69 rfl rfl ?_
    refine z_sipush (1378 : Int32) dX9_load_70 (by decide) ?_
    refine z_icmp_ge 89 dX9_load_73 (by decide) hf (fun hf => ?_) (fun hf => ?_)
    · exact Z.sub [0] rfl (hk1 h hf)
    · refine z_aload_n 0 dX9_load_76 rfl rfl ?_
      refine z_getA dX9_load_77 zc9 (by decide) wf_X9_20 hf fun x12 hf => ?_
      refine z_iload_n 1 dX9_load_80 rfl rfl ?_
      refine z_iconst (0 : Int32) dX9_load_81 (by decide) ?_
      refine z_iastore dX9_load_82 hf fun h13 hf => ?_
      refine z_iinc (v2 + (1 : Int32)) 1 [(2, .int (v2 + (1 : Int32))), (0, .ref v0)] dX9_load_83 rfl rfl (by decide) rfl ?_
      refine z_goto 69 dX9_load_86 (by decide) ?_
      exact Z.sub [1, 0] rfl (ih (v2 + (1 : Int32)) h13 hf)
set_option maxRecDepth 4000 in
theorem zl_X9_load_126 {Γ : zG} {N d : Nat} {h0 : zH} (hd : 102 ≤ d) {v0 : Nat} {k1 : zH → Option (Int32 × zH)} {w : Int32 × zH}  (hk1 : ∀ (h : zH), k1 h = some w → Z Γ m_X9_load d h0 (zoI w) 148 [(0, .ref v0)] [] h) : ∀ (n : Nat)  (h : zH), f_X9_load_l126 N v0 k1 n  h = some w → Z Γ m_X9_load d h0 (zoI w) 126 [(0, .ref v0)] [] h := by
  intro n
  induction n with
  | zero => intro  h hf; cases hf
  | succ n ih =>
    intro  h hf
    rw [f_X9_load_l126] at hf
    refine z_aload_n 0 dX9_load_126 rfl rfl ?_
    refine z_cV_i (d' := d - 1) (As := []) (rest := []) dX9_load_127 lk_X9_83 rfl hf (fun w1 e1 => zc_X9_isGood (by omega) e1) (by omega) rfl rfl (Nat.le_of_ble_eq_true rfl) fun y20 hf => ?_
    refine z_if_eq 148 dX9_load_130 (by decide) hf (fun hf => ?_) (fun hf => ?_)
    · exact Z.sub [0] rfl (hk1 y20.2 hf)
    · refine z_aload_n 0 dX9_load_133 rfl rfl ?_
      refine z_cV_i (d' := d - 1) (As := []) (rest := []) dX9_load_134 lk_X9_87 rfl hf (fun w1 e1 => zc_X9_next (by omega) e1) (by omega) rfl rfl (Nat.le_of_ble_eq_true rfl) fun y21 hf => ?_
      refine z_iconst (-1 : Int32) dX9_load_137 (by decide) ?_
      refine z_icmp_eq 148 dX9_load_138 (by decide) hf (fun hf => ?_) (fun hf => ?_)
      · exact Z.sub [0] rfl (hk1 y21.2 hf)
      · refine z_aload_n 0 dX9_load_141 rfl rfl ?_
        refine z_cV_v (d' := d - 1) (As := []) (rest := []) dX9_load_142 lk_X9_191 rfl hf (fun w1 e1 => zc_X9_statement (by omega) e1) (by omega) rfl rfl (Nat.le_of_ble_eq_true rfl) fun y22 hf => ?_
        refine z_goto 126 dX9_load_145 (by decide) ?_
        exact Z.sub [0] rfl (ih y22 hf)
set_option maxRecDepth 4000 in
theorem zj_X9_load_108 {Γ : zG} {N d : Nat} {h0 : zH} (hd : 102 ≤ d) {v0 : Nat}  {h : zH} {w : Int32 × zH} (hf : f_X9_load_j108 N v0  h = some w) : Z Γ m_X9_load d h0 (zoI w) 108 [(0, .ref v0)] [] h := by
  unfold f_X9_load_j108 at hf
  refine z_aload_n 0 dX9_load_108 rfl rfl ?_
  refine z_getA dX9_load_109 zc9 (by decide) wf_X9_20 hf fun x16 hf => ?_
  refine z_iconst (0 : Int32) dX9_load_112 (by decide) ?_
  refine z_aload_n 0 dX9_load_113 rfl rfl ?_
  refine z_iconst (2 : Int32) dX9_load_114 (by decide) ?_
  refine z_iconst (5 : Int32) dX9_load_115 (by decide) ?_
  refine z_cV_i (d' := d - 1) (As := [.int (2 : Int32), .int (5 : Int32)]) (rest := [.int (0 : Int32), .ref x16]) dX9_load_116 lk_X9_138 rfl hf (fun w1 e1 => zc_X9_number (by omega) e1) (by omega) rfl rfl (Nat.le_of_ble_eq_true rfl) fun y17 hf => ?_
  refine z_iastore dX9_load_119 hf fun h18 hf => ?_
  refine z_aload_n 0 dX9_load_120 rfl rfl ?_
  refine z_bipush (59 : Int32) dX9_load_121 (by decide) ?_
  refine z_cV_v (d' := d - 1) (As := [.int (59 : Int32)]) (rest := []) dX9_load_123 lk_X9_122 rfl hf (fun w1 e1 => zc_X9_expect (by omega) e1) (by omega) rfl rfl (Nat.le_of_ble_eq_true rfl) fun y19 hf => ?_
  refine Z.sub [0] rfl (zl_X9_load_126 hd (fun h23 hf => ?_) N y19 hf)
  · refine z_aload_n 0 dX9_load_148 rfl rfl ?_
    refine z_aload_n 0 dX9_load_149 rfl rfl ?_
    refine z_getI dX9_load_150 zc9 (by decide) wf_X9_76 hf fun x24 hf => ?_
    refine z_putB dX9_load_153 zc9 (by decide) wf_X9_13 (Or.inl rfl) rfl rfl hf fun h25 hf => ?_
    refine z_aload_n 0 dX9_load_156 rfl rfl ?_
    refine z_cV_i (d' := d - 1) (As := []) (rest := []) dX9_load_157 lk_X9_83 rfl hf (fun w1 e1 => zc_X9_isGood (by omega) e1) (by omega) rfl rfl (Nat.le_of_ble_eq_true rfl) fun y26 hf => ?_
    refine z_if_ne 168 dX9_load_160 (by decide) hf (fun hf => ?_) (fun hf => ?_)
    · refine z_aload_n 0 dX9_load_163 rfl rfl ?_
      refine z_getI dX9_load_164 zc9 (by decide) wf_X9_73 hf fun x33 hf => ?_
      exact z_iret dX9_load_167 rfl (by cases hf; rfl)
    · refine z_aload_n 0 dX9_load_168 rfl rfl ?_
      refine z_cV_v (d' := d - 1) (As := []) (rest := []) dX9_load_169 lk_X9_194 rfl hf (fun w1 e1 => zc_X9_remember (by omega) e1) (by omega) rfl rfl (Nat.le_of_ble_eq_true rfl) fun y27 hf => ?_
      refine z_aload_n 0 dX9_load_172 rfl rfl ?_
      refine z_getA dX9_load_173 zc9 (by decide) wf_X9_20 hf fun x28 hf => ?_
      refine z_aload_n 0 dX9_load_176 rfl rfl ?_
      refine z_getA dX9_load_177 zc9 (by decide) wf_X9_17 hf fun x29 hf => ?_
      refine z_cS_v (d' := d - 1) (As := [.ref x28, .ref x29]) (rest := []) dX9_load_180 lk_X9_197 hf (fun w1 e1 => zc_X9_copy (by omega) e1) (by omega) rfl rfl (Nat.le_of_ble_eq_true rfl) fun y30 hf => ?_
      refine z_aload_n 0 dX9_load_183 rfl rfl ?_
      refine z_getA dX9_load_184 zc9 (by decide) wf_X9_17 hf fun x31 hf => ?_
      refine z_iconst (1 : Int32) dX9_load_187 (by decide) ?_
      refine z_iaload dX9_load_188 hf fun x32 hf => ?_
      exact z_iret dX9_load_189 rfl (by cases hf; rfl)
set_option maxRecDepth 4000 in
theorem zj_X9_load_23 {Γ : zG} {N d : Nat} {h0 : zH} (hd : 102 ≤ d) {v0 : Nat} {v1 : Int32} {s0 : Nat} {s1 : Int32} {h : zH} {w : Int32 × zH} (hf : f_X9_load_j23 N v0 v1 s0 s1 h = some w) : Z Γ m_X9_load d h0 (zoI w) 23 [(0, .ref v0), (1, .int v1)] [.int s1, .ref s0] h := by
  unfold f_X9_load_j23 at hf
  refine z_iconst (1 : Int32) dX9_load_23 (by decide) ?_
  refine z_cV_i (d' := d - 1) (As := [.int s1, .int (1 : Int32)]) (rest := []) dX9_load_24 lk_X9_185 rfl hf (fun w1 e1 => zc_X9_fails (by omega) e1) (by omega) rfl rfl (Nat.le_of_ble_eq_true rfl) fun y4 hf => ?_
  refine z_if_eq 32 dX9_load_27 (by decide) hf (fun hf => ?_) (fun hf => ?_)
  · refine z_aload_n 0 dX9_load_32 rfl rfl ?_
    refine z_iconst (0 : Int32) dX9_load_33 (by decide) ?_
    refine z_putB dX9_load_34 zc9 (by decide) wf_X9_61 (Or.inl rfl) rfl rfl hf fun h5 hf => ?_
    refine z_aload_n 0 dX9_load_37 rfl rfl ?_
    refine z_iload_n 1 dX9_load_38 rfl rfl ?_
    refine z_putB dX9_load_39 zc9 (by decide) wf_X9_64 (Or.inl rfl) rfl rfl hf fun h6 hf => ?_
    refine z_aload_n 0 dX9_load_42 rfl rfl ?_
    refine z_iconst (0 : Int32) dX9_load_43 (by decide) ?_
    refine z_putB dX9_load_44 zc9 (by decide) wf_X9_67 (Or.inl rfl) rfl rfl hf fun h7 hf => ?_
    refine z_aload_n 0 dX9_load_47 rfl rfl ?_
    refine z_iconst (0 : Int32) dX9_load_48 (by decide) ?_
    refine z_putB dX9_load_49 zc9 (by decide) wf_X9_73 (Or.inl rfl) rfl rfl hf fun h8 hf => ?_
    refine z_aload_n 0 dX9_load_52 rfl rfl ?_
    refine z_iconst (-1 : Int32) dX9_load_53 (by decide) ?_
    refine z_putB dX9_load_54 zc9 (by decide) wf_X9_76 (Or.inl rfl) rfl rfl hf fun h9 hf => ?_
    refine z_aload_n 0 dX9_load_57 rfl rfl ?_
    refine z_iconst (0 : Int32) dX9_load_58 (by decide) ?_
    refine z_putB dX9_load_59 zc9 (by decide) wf_X9_116 (Or.inl rfl) rfl rfl hf fun h10 hf => ?_
    refine z_aload_n 0 dX9_load_62 rfl rfl ?_
    refine z_iconst (0 : Int32) dX9_load_63 (by decide) ?_
    refine z_putB dX9_load_64 zc9 (by decide) wf_X9_150 (Or.inl rfl) rfl rfl hf fun h11 hf => ?_
    refine z_iconst (0 : Int32) dX9_load_67 (by decide) ?_
    refine z_istore_n [(2, .int (0 : Int32)), (0, .ref v0), (1, .int v1)] dX9_load_68 rfl (by decide) rfl ?_
    refine Z.sub [1, 0] rfl (zl_X9_load_69 hd (fun h14 hf => ?_) N (0 : Int32) h11 hf)
    · refine z_aload_n 0 dX9_load_89 rfl rfl ?_
      refine z_ldcS9 (i := 0) (by decide) rfl rfl dX9_load_90 ?_
      refine z_cV_i (d' := d - 1) (As := [.ref (zKa Γ 0)]) (rest := []) dX9_load_92 lk_X9_128 rfl hf (fun w1 e1 => zc_X9_takeWord (by omega) e1) (by omega) rfl rfl (Nat.le_of_ble_eq_true rfl) fun y15 hf => ?_
      refine z_if_ne 108 dX9_load_95 (by decide) hf (fun hf => ?_) (fun hf => ?_)
      · refine z_aload_n 0 dX9_load_98 rfl rfl ?_
        refine z_bipush (-2 : Int32) dX9_load_99 (by decide) ?_
        refine z_aload_n 0 dX9_load_101 rfl rfl ?_
        refine z_getI dX9_load_102 zc9 (by decide) wf_X9_67 hf fun x34 hf => ?_
        refine z_cV_v (d' := d - 1) (As := [.int (-2 : Int32), .int x34]) (rest := []) dX9_load_105 lk_X9_100 rfl hf (fun w1 e1 => zc_X9_report (by omega) e1) (by omega) rfl rfl (Nat.le_of_ble_eq_true rfl) fun y35 hf => ?_
        exact Z.sub [0] rfl (zj_X9_load_108 hd hf)
      · exact Z.sub [0] rfl (zj_X9_load_108 hd hf)
  · refine z_iconst (0 : Int32) dX9_load_30 (by decide) ?_
    exact z_iret dX9_load_31 rfl (by cases hf; rfl)
set_option maxRecDepth 4000 in
theorem zc_X9_load {Γ : zG} {N d : Nat} (hd : 102 ≤ d) {a : Nat} {p1 : Int32} {h : zH} {w : Int32 × zH} (hf : f_X9_load N a p1 h = some w) : Zm Γ m_X9_load d [.ref a, .int p1] h (zoI w) := by
  unfold f_X9_load at hf
  refine z_meth rfl (plainFor_of_name wpl_X9) (by simp [lg_sl, Value.category, zml, m_X9_load]) ?_
  refine z_aload_n 0 dX9_load_0 rfl rfl ?_
  refine z_iconst (0 : Int32) dX9_load_1 (by decide) ?_
  refine z_putB dX9_load_2 zc9 (by decide) wf_X9_46 (Or.inl rfl) rfl rfl hf fun h1 hf => ?_
  refine z_aload_n 0 dX9_load_5 rfl rfl ?_
  refine z_iload_n 1 dX9_load_6 rfl rfl ?_
  refine z_iconst (0 : Int32) dX9_load_7 (by decide) ?_
  refine z_aload_n 0 dX9_load_8 rfl rfl ?_
  refine z_getI dX9_load_9 zc9 (by decide) wf_X9_61 hf fun x2 hf => ?_
  refine z_cS_i (d' := d - 1) (As := [.int p1, .int (0 : Int32), .int x2]) (rest := [.ref a]) dX9_load_12 lk_X9_79 hf (fun w1 e1 => zc_X9_in (by omega) e1) (by omega) rfl rfl (Nat.le_of_ble_eq_true rfl) fun y3 hf => ?_
  refine z_if_ne 22 dX9_load_15 (by decide) hf (fun hf => ?_) (fun hf => ?_)
  · refine z_iconst (1 : Int32) dX9_load_18 (by decide) ?_
    refine z_goto 23 dX9_load_19 (by decide) ?_
    exact Z.sub [0, 1] rfl (zj_X9_load_23 hd hf)
  · refine z_iconst (0 : Int32) dX9_load_22 (by decide) ?_
    exact Z.sub [0, 1] rfl (zj_X9_load_23 hd hf)
set_option maxRecDepth 4000 in
theorem zc_X9_thrown {Γ : zG} {N d : Nat} (hd : 10 ≤ d) {a : Nat} {h : zH} {w : Int32 × zH} (hf : f_X9_thrown N a h = some w) : Zm Γ m_X9_thrown d [.ref a] h (zoI w) := by
  unfold f_X9_thrown at hf
  refine z_meth rfl (plainFor_of_name wpl_X9) (by simp [lg_sl, Value.category, zml, m_X9_thrown]) ?_
  refine z_aload_n 0 dX9_thrown_0 rfl rfl ?_
  refine z_getI dX9_thrown_1 zc9 (by decide) wf_X9_46 hf fun x1 hf => ?_
  exact z_iret dX9_thrown_4 rfl (by cases hf; rfl)
set_option maxRecDepth 4000 in
theorem zc_X8_errorOffset {Γ : zG} {N d : Nat} (hd : 10 ≤ d) {a : Nat} {h : zH} {w : Int32 × zH} (hf : f_X8_errorOffset N a h = some w) : Zm Γ m_X8_errorOffset d [.ref a] h (zoI w) := by
  unfold f_X8_errorOffset at hf
  refine z_meth rfl (plainFor_of_name wpl_X8) (by simp [lg_sl, Value.category, zml, m_X8_errorOffset]) ?_
  refine z_aload_n 0 dX8_errorOffset_0 rfl rfl ?_
  refine z_getI dX8_errorOffset_1 zc8 (by decide) wf_X8_46 hf fun x1 hf => ?_
  exact z_iret dX8_errorOffset_4 rfl (by cases hf; rfl)
set_option maxRecDepth 4000 in
theorem zc_X9_errorOffset {Γ : zG} {N d : Nat} (hd : 10 ≤ d) {a : Nat} {h : zH} {w : Int32 × zH} (hf : f_X9_errorOffset N a h = some w) : Zm Γ m_X9_errorOffset d [.ref a] h (zoI w) := by
  unfold f_X9_errorOffset at hf
  refine z_meth rfl (plainFor_of_name wpl_X9) (by simp [lg_sl, Value.category, zml, m_X9_errorOffset]) ?_
  refine z_aload_n 0 dX9_errorOffset_0 rfl rfl ?_
  refine z_iconst (0 : Int32) dX9_errorOffset_1 (by decide) ?_
  refine z_putB dX9_errorOffset_2 zc9 (by decide) wf_X9_46 (Or.inl rfl) rfl rfl hf fun h1 hf => ?_
  refine z_aload_n 0 dX9_errorOffset_5 rfl rfl ?_
  refine z_getI dX9_errorOffset_6 zc9 (by decide) wf_X9_13 hf fun x2 hf => ?_
  exact z_iret dX9_errorOffset_9 rfl (by cases hf; rfl)
set_option maxRecDepth 4000 in
theorem zc_X6_size {Γ : zG} {N d : Nat} (hd : 10 ≤ d) {a : Nat} {h : zH} {w : Int32 × zH} (hf : f_X6_size N a h = some w) : Zm Γ m_X6_size d [.ref a] h (zoI w) := by
  unfold f_X6_size at hf
  refine z_meth rfl (plainFor_of_name wpl_X6) (by simp [lg_sl, Value.category, zml, m_X6_size]) ?_
  refine z_aload_n 0 dX6_size_0 rfl rfl ?_
  refine z_getI dX6_size_1 zc6 (by decide) wf_X6_19 hf fun x1 hf => ?_
  exact z_iret dX6_size_4 rfl (by cases hf; rfl)
set_option maxRecDepth 4000 in
theorem zc_X6_holds {Γ : zG} {N d : Nat} (hd : 10 ≤ d) {a : Nat} {p1 : Int32} {h : zH} {w : Int32 × zH} (hf : f_X6_holds N a p1 h = some w) : Zm Γ m_X6_holds d [.ref a, .int p1] h (zoI w) := by
  unfold f_X6_holds at hf
  refine z_meth rfl (plainFor_of_name wpl_X6) (by simp [lg_sl, Value.category, zml, m_X6_holds]) ?_
  refine z_iload_n 1 dX6_holds_0 rfl rfl ?_
  refine z_if_lt 25 dX6_holds_1 (by decide) hf (fun hf => ?_) (fun hf => ?_)
  · refine z_iconst (0 : Int32) dX6_holds_25 (by decide) ?_
    exact z_zret dX6_holds_26 rfl (Or.inl rfl) (by cases hf; rfl)
  · refine z_iload_n 1 dX6_holds_4 rfl rfl ?_
    refine z_aload_n 0 dX6_holds_5 rfl rfl ?_
    refine z_getI dX6_holds_6 zc6 (by decide) wf_X6_19 hf fun x1 hf => ?_
    refine z_icmp_ge 25 dX6_holds_9 (by decide) hf (fun hf => ?_) (fun hf => ?_)
    · refine z_iconst (0 : Int32) dX6_holds_25 (by decide) ?_
      exact z_zret dX6_holds_26 rfl (Or.inl rfl) (by cases hf; rfl)
    · refine z_iload_n 1 dX6_holds_12 rfl rfl ?_
      refine z_aload_n 0 dX6_holds_13 rfl rfl ?_
      refine z_getA dX6_holds_14 zc6 (by decide) wf_X6_13 hf fun x2 hf => ?_
      refine z_alen dX6_holds_17 hf fun x3 hf => ?_
      refine z_icmp_ge 25 dX6_holds_18 (by decide) hf (fun hf => ?_) (fun hf => ?_)
      · refine z_iconst (0 : Int32) dX6_holds_25 (by decide) ?_
        exact z_zret dX6_holds_26 rfl (Or.inl rfl) (by cases hf; rfl)
      · refine z_iconst (1 : Int32) dX6_holds_21 (by decide) ?_
        refine z_goto 26 dX6_holds_22 (by decide) ?_
        exact z_zret dX6_holds_26 rfl (Or.inr rfl) (by cases hf; rfl)
set_option maxRecDepth 4000 in
theorem zc_X0_isOver {Γ : zG} {N d : Nat} (hd : 11 ≤ d) {a : Nat} {h : zH} {w : Int32 × zH} (hf : f_X0_isOver N a h = some w) : Zm Γ m_X0_isOver d [.ref a] h (zoI w) := by
  unfold f_X0_isOver at hf
  refine z_meth rfl (plainFor_of_name wpl_X0) (by simp [lg_sl, Value.category, zml, m_X0_isOver]) ?_
  refine z_aload_n 0 dX0_isOver_0 rfl rfl ?_
  refine z_getI dX0_isOver_1 zc0 (by decide) wf_X0_56 hf fun x1 hf => ?_
  refine z_if_eq 21 dX0_isOver_4 (by decide) hf (fun hf => ?_) (fun hf => ?_)
  · refine z_iconst (1 : Int32) dX0_isOver_21 (by decide) ?_
    refine z_goto 26 dX0_isOver_22 (by decide) ?_
    exact z_zret dX0_isOver_26 rfl (Or.inr rfl) (by cases hf; rfl)
  · refine z_aload_n 0 dX0_isOver_7 rfl rfl ?_
    refine z_getA dX0_isOver_8 zc0 (by decide) wf_X0_27 hf fun x2 hf => ?_
    refine z_aload_n 0 dX0_isOver_11 rfl rfl ?_
    refine z_getI dX0_isOver_12 zc0 (by decide) wf_X0_62 hf fun x3 hf => ?_
    refine z_cV_i (d' := d - 1) (As := [.int x3]) (rest := []) dX0_isOver_15 lk_X0_90 rfl hf (fun w1 e1 => zc_X6_holds (by omega) e1) (by omega) rfl rfl (Nat.le_of_ble_eq_true rfl) fun y4 hf => ?_
    refine z_if_ne 25 dX0_isOver_18 (by decide) hf (fun hf => ?_) (fun hf => ?_)
    · refine z_iconst (1 : Int32) dX0_isOver_21 (by decide) ?_
      refine z_goto 26 dX0_isOver_22 (by decide) ?_
      exact z_zret dX0_isOver_26 rfl (Or.inr rfl) (by cases hf; rfl)
    · refine z_iconst (0 : Int32) dX0_isOver_25 (by decide) ?_
      exact z_zret dX0_isOver_26 rfl (Or.inl rfl) (by cases hf; rfl)
set_option maxRecDepth 4000 in
theorem zc_X8_state {Γ : zG} {N d : Nat} (hd : 12 ≤ d) {a : Nat} {p1 : Int32} {h : zH} {w : (Int32 ⊕ Nat) × zH} (hf : f_X8_state N a p1 h = some w) : Zm Γ m_X8_state d [.ref a, .int p1] h (zoTI w) := by
  unfold f_X8_state at hf
  refine z_meth rfl (plainFor_of_name wpl_X8) (by simp [lg_sl, Value.category, zml, m_X8_state]) ?_
  refine z_iload_n 1 dX8_state_0 rfl rfl ?_
  by_cases c0 : p1 = (0 : Int32)
  · rw [if_pos c0] at hf
    refine z_tableIn 52 dX8_state_1 (by rw [c0]; decide) (by rw [c0]; decide) (by rw [c0]; rfl) (by decide) ?_
    refine z_aload_n 0 dX8_state_52 rfl rfl ?_
    refine z_getA dX8_state_53 zc8 (by decide) wf_X8_28 hf fun x1 hf => ?_
    refine z_getI dX8_state_56 zc0 (by decide) wf_X8_86 hf fun x2 hf => ?_
    exact z_iret dX8_state_59 rfl (by cases hf; rfl)
  · rw [if_neg c0] at hf
    by_cases c1 : p1 = (1 : Int32)
    · rw [if_pos c1] at hf
      refine z_tableIn 60 dX8_state_1 (by rw [c1]; decide) (by rw [c1]; decide) (by rw [c1]; rfl) (by decide) ?_
      refine z_aload_n 0 dX8_state_60 rfl rfl ?_
      refine z_getA dX8_state_61 zc8 (by decide) wf_X8_28 hf fun x3 hf => ?_
      refine z_getI dX8_state_64 zc0 (by decide) wf_X8_83 hf fun x4 hf => ?_
      exact z_iret dX8_state_67 rfl (by cases hf; rfl)
    · rw [if_neg c1] at hf
      by_cases c2 : p1 = (2 : Int32)
      · rw [if_pos c2] at hf
        refine z_tableIn 68 dX8_state_1 (by rw [c2]; decide) (by rw [c2]; decide) (by rw [c2]; rfl) (by decide) ?_
        refine z_aload_n 0 dX8_state_68 rfl rfl ?_
        refine z_getA dX8_state_69 zc8 (by decide) wf_X8_28 hf fun x5 hf => ?_
        refine z_getA dX8_state_72 zc0 (by decide) wf_X8_89 hf fun x6 hf => ?_
        refine z_cV_i (d' := d - 1) (As := []) (rest := []) dX8_state_75 lk_X8_93 rfl hf (fun w1 e1 => zc_X6_size (by omega) e1) (by omega) rfl rfl (Nat.le_of_ble_eq_true rfl) fun y7 hf => ?_
        exact z_iret dX8_state_78 rfl (by cases hf; rfl)
      · rw [if_neg c2] at hf
        by_cases c3 : p1 = (3 : Int32)
        · rw [if_pos c3] at hf
          refine z_tableIn 79 dX8_state_1 (by rw [c3]; decide) (by rw [c3]; decide) (by rw [c3]; rfl) (by decide) ?_
          refine z_aload_n 0 dX8_state_79 rfl rfl ?_
          refine z_getA dX8_state_80 zc8 (by decide) wf_X8_28 hf fun x8 hf => ?_
          refine z_cV_i (d' := d - 1) (As := []) (rest := []) dX8_state_83 lk_X8_98 rfl hf (fun w1 e1 => zc_X0_isOver (by omega) e1) (by omega) rfl rfl (Nat.le_of_ble_eq_true rfl) fun y9 hf => ?_
          refine z_if_eq 93 dX8_state_86 (by decide) hf (fun hf => ?_) (fun hf => ?_)
          · refine z_aload_n 0 dX8_state_93 rfl rfl ?_
            refine z_getA dX8_state_94 zc8 (by decide) wf_X8_28 hf fun x10 hf => ?_
            refine z_getI dX8_state_97 zc0 (by decide) wf_X8_101 hf fun x11 hf => ?_
            exact z_iret dX8_state_100 rfl (by cases hf; rfl)
          · refine z_iconst (-1 : Int32) dX8_state_89 (by decide) ?_
            refine z_goto 100 dX8_state_90 (by decide) ?_
            exact z_iret dX8_state_100 rfl (by cases hf; rfl)
        · rw [if_neg c3] at hf
          by_cases c4 : p1 = (4 : Int32)
          · rw [if_pos c4] at hf
            refine z_tableIn 101 dX8_state_1 (by rw [c4]; decide) (by rw [c4]; decide) (by rw [c4]; rfl) (by decide) ?_
            refine z_aload_n 0 dX8_state_101 rfl rfl ?_
            refine z_getA dX8_state_102 zc8 (by decide) wf_X8_28 hf fun x12 hf => ?_
            refine z_cV_i (d' := d - 1) (As := []) (rest := []) dX8_state_105 lk_X8_98 rfl hf (fun w1 e1 => zc_X0_isOver (by omega) e1) (by omega) rfl rfl (Nat.le_of_ble_eq_true rfl) fun y13 hf => ?_
            refine z_if_eq 115 dX8_state_108 (by decide) hf (fun hf => ?_) (fun hf => ?_)
            · refine z_aload_n 0 dX8_state_115 rfl rfl ?_
              refine z_getA dX8_state_116 zc8 (by decide) wf_X8_28 hf fun x14 hf => ?_
              refine z_getI dX8_state_119 zc0 (by decide) wf_X8_104 hf fun x15 hf => ?_
              exact z_iret dX8_state_122 rfl (by cases hf; rfl)
            · refine z_iconst (-1 : Int32) dX8_state_111 (by decide) ?_
              refine z_goto 122 dX8_state_112 (by decide) ?_
              exact z_iret dX8_state_122 rfl (by cases hf; rfl)
          · rw [if_neg c4] at hf
            by_cases c5 : p1 = (5 : Int32)
            · rw [if_pos c5] at hf
              refine z_tableIn 123 dX8_state_1 (by rw [c5]; decide) (by rw [c5]; decide) (by rw [c5]; rfl) (by decide) ?_
              refine z_aload_n 0 dX8_state_123 rfl rfl ?_
              refine z_getA dX8_state_124 zc8 (by decide) wf_X8_28 hf fun x16 hf => ?_
              refine z_getA dX8_state_127 zc0 (by decide) wf_X8_107 hf fun x17 hf => ?_
              refine z_cV_i (d' := d - 1) (As := []) (rest := []) dX8_state_130 lk_X8_93 rfl hf (fun w1 e1 => zc_X6_size (by omega) e1) (by omega) rfl rfl (Nat.le_of_ble_eq_true rfl) fun y18 hf => ?_
              exact z_iret dX8_state_133 rfl (by cases hf; rfl)
            · rw [if_neg c5] at hf
              by_cases c6 : p1 = (6 : Int32)
              · rw [if_pos c6] at hf
                refine z_tableIn 134 dX8_state_1 (by rw [c6]; decide) (by rw [c6]; decide) (by rw [c6]; rfl) (by decide) ?_
                refine z_aload_n 0 dX8_state_134 rfl rfl ?_
                refine z_getA dX8_state_135 zc8 (by decide) wf_X8_28 hf fun x19 hf => ?_
                refine z_getI dX8_state_138 zc0 (by decide) wf_X8_110 hf fun x20 hf => ?_
                exact z_iret dX8_state_141 rfl (by cases hf; rfl)
              · rw [if_neg c6] at hf
                by_cases c7 : p1 = (7 : Int32)
                · rw [if_pos c7] at hf
                  refine z_tableIn 142 dX8_state_1 (by rw [c7]; decide) (by rw [c7]; decide) (by rw [c7]; rfl) (by decide) ?_
                  refine z_aload_n 0 dX8_state_142 rfl rfl ?_
                  refine z_getA dX8_state_143 zc8 (by decide) wf_X8_28 hf fun x21 hf => ?_
                  refine z_getI dX8_state_146 zc0 (by decide) wf_X8_113 hf fun x22 hf => ?_
                  exact z_iret dX8_state_149 rfl (by cases hf; rfl)
                · rw [if_neg c7] at hf
                  by_cases c8 : p1 = (8 : Int32)
                  · rw [if_pos c8] at hf
                    refine z_tableIn 150 dX8_state_1 (by rw [c8]; decide) (by rw [c8]; decide) (by rw [c8]; rfl) (by decide) ?_
                    refine z_aload_n 0 dX8_state_150 rfl rfl ?_
                    refine z_getA dX8_state_151 zc8 (by decide) wf_X8_28 hf fun x23 hf => ?_
                    refine z_getI dX8_state_154 zc0 (by decide) wf_X8_116 hf fun x24 hf => ?_
                    exact z_iret dX8_state_157 rfl (by cases hf; rfl)
                  · rw [if_neg c8] at hf
                    refine z_tableOut 158 dX8_state_1 (by have q := z_sw_out (x := p1) (lo := (0 : Int)) (n := 9) (by decide) (by decide) (lt_s (i := 8) (lt_s (i := 7) (lt_s (i := 6) (lt_s (i := 5) (lt_s (i := 4) (lt_s (i := 3) (lt_s (i := 2) (lt_s (i := 1) (lt_s (i := 0) lt_0 (fun e => c0 (e.trans (by decide)))) (fun e => c1 (e.trans (by decide)))) (fun e => c2 (e.trans (by decide)))) (fun e => c3 (e.trans (by decide)))) (fun e => c4 (e.trans (by decide)))) (fun e => c5 (e.trans (by decide)))) (fun e => c6 (e.trans (by decide)))) (fun e => c7 (e.trans (by decide)))) (fun e => c8 (e.trans (by decide)))); omega) (by decide) ?_
                    exact z_throw 1 (by decide) dX8_state_158 dX8_state_161 dX8_state_162 dX8_state_165 wc_X8_62 wi_x1 wx_X8_64a wx_X8_64b (by omega) rfl (Nat.le_of_ble_eq_true rfl) (by cases hf; rfl)
set_option maxRecDepth 4000 in
theorem zc_L_state {Γ : zG} {N d : Nat} (hd : 13 ≤ d) {p1 : Nat} {p2 : Int32} {p3 : Nat} {h : zH} {w : Int32 × zH} (hf : f_L_state N p1 p2 p3 h = some w) : Zm Γ m_L_state d [.ref p1, .int p2, .ref p3] h (zoI w) := by
  unfold f_L_state at hf
  refine z_methH (by decide) (by decide +kernel) (by simp [lg_sl, Value.category, zml, m_L_state]) ?_
  refine z_aload_n 2 dL_state_0 rfl rfl ?_
  refine z_iconst (0 : Int32) dL_state_1 (by decide) ?_
  refine z_aload_n 0 dL_state_2 rfl rfl ?_
  refine z_iload_n 1 dL_state_3 rfl rfl ?_
  refine z_cV_ti (d' := d - 1) (As := [.int p2]) (rest := [.int (0 : Int32), .ref p3]) dL_state_4 lk_L_15 rfl hf (fun w1 e1 => zc_X8_state (by omega) e1) (by omega) rfl rfl (Nat.le_of_ble_eq_true rfl) (fun y1 x2 hf => ?_) (fun y1 k3 hf => ?_)
  · refine z_i2l dL_state_7 ?_
    refine z_lastore dL_state_8 hf fun h4 hf => ?_
    refine z_goto 15 dL_state_9 (by decide) ?_
    refine z_iconst (0 : Int32) dL_state_15 (by decide) ?_
    exact z_iret dL_state_16 rfl (by cases hf; rfl)
  · by_cases e0 : k3 = 1
    · rw [if_pos e0] at hf
      subst e0
      refine zx_catch (by decide) [] (0, 9, 12, 13) [] rfl (fun z hz => absurd hz List.not_mem_nil) (by decide) (by decide) wc_L_13 wct_1 fun q5 => ?_
      refine z_astore_n [(3, .ref q5), (0, .ref p1), (1, .int p2), (2, .ref p3)] dL_state_12 rfl (by decide) rfl ?_
      refine z_iconst (1 : Int32) dL_state_13 (by decide) ?_
      exact z_iret dL_state_14 rfl (by cases hf; rfl)
    · rw [if_neg e0] at hf
      cases hf
set_option maxRecDepth 4000 in
theorem zc_X9_isOver {Γ : zG} {N d : Nat} (hd : 10 ≤ d) {a : Nat} {h : zH} {w : Int32 × zH} (hf : f_X9_isOver N a h = some w) : Zm Γ m_X9_isOver d [.ref a] h (zoI w) := by
  unfold f_X9_isOver at hf
  refine z_meth rfl (plainFor_of_name wpl_X9) (by simp [lg_sl, Value.category, zml, m_X9_isOver]) ?_
  refine z_aload_n 0 dX9_isOver_0 rfl rfl ?_
  refine z_getA dX9_isOver_1 zc9 (by decide) wf_X9_17 hf fun x1 hf => ?_
  refine z_iconst (1 : Int32) dX9_isOver_4 (by decide) ?_
  refine z_iaload dX9_isOver_5 hf fun x2 hf => ?_
  refine z_if_eq 24 dX9_isOver_6 (by decide) hf (fun hf => ?_) (fun hf => ?_)
  · refine z_iconst (1 : Int32) dX9_isOver_24 (by decide) ?_
    refine z_goto 29 dX9_isOver_25 (by decide) ?_
    exact z_zret dX9_isOver_29 rfl (Or.inr rfl) (by cases hf; rfl)
  · refine z_aload_n 0 dX9_isOver_9 rfl rfl ?_
    refine z_getA dX9_isOver_10 zc9 (by decide) wf_X9_17 hf fun x3 hf => ?_
    refine z_iconst (3 : Int32) dX9_isOver_13 (by decide) ?_
    refine z_iaload dX9_isOver_14 hf fun x4 hf => ?_
    refine z_aload_n 0 dX9_isOver_15 rfl rfl ?_
    refine z_getA dX9_isOver_16 zc9 (by decide) wf_X9_17 hf fun x5 hf => ?_
    refine z_iconst (2 : Int32) dX9_isOver_19 (by decide) ?_
    refine z_iaload dX9_isOver_20 hf fun x6 hf => ?_
    refine z_icmp_lt 28 dX9_isOver_21 (by decide) hf (fun hf => ?_) (fun hf => ?_)
    · refine z_iconst (0 : Int32) dX9_isOver_28 (by decide) ?_
      exact z_zret dX9_isOver_29 rfl (Or.inl rfl) (by cases hf; rfl)
    · refine z_iconst (1 : Int32) dX9_isOver_24 (by decide) ?_
      refine z_goto 29 dX9_isOver_25 (by decide) ?_
      exact z_zret dX9_isOver_29 rfl (Or.inr rfl) (by cases hf; rfl)
set_option maxRecDepth 4000 in
theorem zc_X9_told {Γ : zG} {N d : Nat} (hd : 11 ≤ d) {a : Nat} {p1 : Int32} {h : zH} {w : Int32 × zH} (hf : f_X9_told N a p1 h = some w) : Zm Γ m_X9_told d [.ref a, .int p1] h (zoI w) := by
  unfold f_X9_told at hf
  refine z_meth rfl (plainFor_of_name wpl_X9) (by simp [lg_sl, Value.category, zml, m_X9_told]) ?_
  refine z_iload_n 1 dX9_told_0 rfl rfl ?_
  refine z_iconst (3 : Int32) dX9_told_1 (by decide) ?_
  refine z_icmp_ne 25 dX9_told_2 (by decide) hf (fun hf => ?_) (fun hf => ?_)
  · refine z_aload_n 0 dX9_told_5 rfl rfl ?_
    refine z_cV_i (d' := d - 1) (As := []) (rest := []) dX9_told_6 lk_X9_248 rfl hf (fun w1 e1 => zc_X9_isOver (by omega) e1) (by omega) rfl rfl (Nat.le_of_ble_eq_true rfl) fun y6 hf => ?_
    refine z_if_eq 16 dX9_told_9 (by decide) hf (fun hf => ?_) (fun hf => ?_)
    · refine z_aload_n 0 dX9_told_16 rfl rfl ?_
      refine z_getA dX9_told_17 zc9 (by decide) wf_X9_17 hf fun x7 hf => ?_
      refine z_iconst (3 : Int32) dX9_told_20 (by decide) ?_
      refine z_iaload dX9_told_21 hf fun x8 hf => ?_
      refine z_goto 56 dX9_told_22 (by decide) ?_
      exact z_iret dX9_told_56 rfl (by cases hf; rfl)
    · refine z_iconst (-1 : Int32) dX9_told_12 (by decide) ?_
      refine z_goto 56 dX9_told_13 (by decide) ?_
      exact z_iret dX9_told_56 rfl (by cases hf; rfl)
  · refine z_iload_n 1 dX9_told_25 rfl rfl ?_
    refine z_iconst (4 : Int32) dX9_told_26 (by decide) ?_
    refine z_icmp_ne 50 dX9_told_27 (by decide) hf (fun hf => ?_) (fun hf => ?_)
    · refine z_aload_n 0 dX9_told_30 rfl rfl ?_
      refine z_cV_i (d' := d - 1) (As := []) (rest := []) dX9_told_31 lk_X9_248 rfl hf (fun w1 e1 => zc_X9_isOver (by omega) e1) (by omega) rfl rfl (Nat.le_of_ble_eq_true rfl) fun y3 hf => ?_
      refine z_if_eq 41 dX9_told_34 (by decide) hf (fun hf => ?_) (fun hf => ?_)
      · refine z_aload_n 0 dX9_told_41 rfl rfl ?_
        refine z_getA dX9_told_42 zc9 (by decide) wf_X9_17 hf fun x4 hf => ?_
        refine z_iconst (4 : Int32) dX9_told_45 (by decide) ?_
        refine z_iaload dX9_told_46 hf fun x5 hf => ?_
        refine z_goto 56 dX9_told_47 (by decide) ?_
        exact z_iret dX9_told_56 rfl (by cases hf; rfl)
      · refine z_iconst (-1 : Int32) dX9_told_37 (by decide) ?_
        refine z_goto 56 dX9_told_38 (by decide) ?_
        exact z_iret dX9_told_56 rfl (by cases hf; rfl)
    · refine z_aload_n 0 dX9_told_50 rfl rfl ?_
      refine z_getA dX9_told_51 zc9 (by decide) wf_X9_17 hf fun x1 hf => ?_
      refine z_iload_n 1 dX9_told_54 rfl rfl ?_
      refine z_iaload dX9_told_55 hf fun x2 hf => ?_
      exact z_iret dX9_told_56 rfl (by cases hf; rfl)
set_option maxRecDepth 4000 in
theorem zj_X9_state_21 {Γ : zG} {N d : Nat} {h0 : zH} (hd : 12 ≤ d) {v0 : Nat} {v1 : Int32} {s0 : Nat} {s1 : Int32} {h : zH} {w : Int32 × zH} (hf : f_X9_state_j21 N v0 v1 s0 s1 h = some w) : Z Γ m_X9_state d h0 (zoI w) 21 [(0, .ref v0), (1, .int v1)] [.int s1, .ref s0] h := by
  unfold f_X9_state_j21 at hf
  refine z_iconst (1 : Int32) dX9_state_21 (by decide) ?_
  refine z_cV_i (d' := d - 1) (As := [.int s1, .int (1 : Int32)]) (rest := []) dX9_state_22 lk_X9_185 rfl hf (fun w1 e1 => zc_X9_fails (by omega) e1) (by omega) rfl rfl (Nat.le_of_ble_eq_true rfl) fun y3 hf => ?_
  refine z_if_eq 32 dX9_state_25 (by decide) hf (fun hf => ?_) (fun hf => ?_)
  · refine z_aload_n 0 dX9_state_32 rfl rfl ?_
    refine z_iload_n 1 dX9_state_33 rfl rfl ?_
    refine z_cV_i (d' := d - 1) (As := [.int v1]) (rest := []) dX9_state_34 lk_X9_251 rfl hf (fun w1 e1 => zc_X9_told (by omega) e1) (by omega) rfl rfl (Nat.le_of_ble_eq_true rfl) fun y4 hf => ?_
    exact z_iret dX9_state_37 rfl (by cases hf; rfl)
  · refine z_iconst (0 : Int32) dX9_state_28 (by decide) ?_
    refine z_goto 37 dX9_state_29 (by decide) ?_
    exact z_iret dX9_state_37 rfl (by cases hf; rfl)
set_option maxRecDepth 4000 in
theorem zc_X9_state {Γ : zG} {N d : Nat} (hd : 12 ≤ d) {a : Nat} {p1 : Int32} {h : zH} {w : Int32 × zH} (hf : f_X9_state N a p1 h = some w) : Zm Γ m_X9_state d [.ref a, .int p1] h (zoI w) := by
  unfold f_X9_state at hf
  refine z_meth rfl (plainFor_of_name wpl_X9) (by simp [lg_sl, Value.category, zml, m_X9_state]) ?_
  refine z_aload_n 0 dX9_state_0 rfl rfl ?_
  refine z_iconst (0 : Int32) dX9_state_1 (by decide) ?_
  refine z_putB dX9_state_2 zc9 (by decide) wf_X9_46 (Or.inl rfl) rfl rfl hf fun h1 hf => ?_
  refine z_aload_n 0 dX9_state_5 rfl rfl ?_
  refine z_iload_n 1 dX9_state_6 rfl rfl ?_
  refine z_iconst (0 : Int32) dX9_state_7 (by decide) ?_
  refine z_bipush (8 : Int32) dX9_state_8 (by decide) ?_
  refine z_cS_i (d' := d - 1) (As := [.int p1, .int (0 : Int32), .int (8 : Int32)]) (rest := [.ref a]) dX9_state_10 lk_X9_79 hf (fun w1 e1 => zc_X9_in (by omega) e1) (by omega) rfl rfl (Nat.le_of_ble_eq_true rfl) fun y2 hf => ?_
  refine z_if_ne 20 dX9_state_13 (by decide) hf (fun hf => ?_) (fun hf => ?_)
  · refine z_iconst (1 : Int32) dX9_state_16 (by decide) ?_
    refine z_goto 21 dX9_state_17 (by decide) ?_
    exact Z.sub [0, 1] rfl (zj_X9_state_21 hd hf)
  · refine z_iconst (0 : Int32) dX9_state_20 (by decide) ?_
    exact Z.sub [0, 1] rfl (zj_X9_state_21 hd hf)
set_option maxRecDepth 4000 in
theorem zc_X8_existing {Γ : zG} {N d : Nat} (hd : 11 ≤ d) {a : Nat} {p1 : Int32} {h : zH} {w : (Nat ⊕ Nat) × zH} (hf : f_X8_existing N a p1 h = some w) : Zm Γ m_X8_existing d [.ref a, .int p1] h (zoTA w) := by
  unfold f_X8_existing at hf
  refine z_meth rfl (plainFor_of_name wpl_X8) (by simp [lg_sl, Value.category, zml, m_X8_existing]) ?_
  refine z_aload_n 0 dX8_existing_0 rfl rfl ?_
  refine z_getA dX8_existing_1 zc8 (by decide) wf_X8_28 hf fun x1 hf => ?_
  refine z_iload_n 1 dX8_existing_4 rfl rfl ?_
  refine z_cV_n (d' := d - 1) (As := [.int p1]) (rest := []) dX8_existing_5 lk_X8_254 rfl hf (fun w1 e1 => zc_X0_bidder (by omega) e1) (by omega) rfl rfl (Nat.le_of_ble_eq_true rfl) (fun y2 hf => ?_) (fun y2 x3 hf => ?_)
  · refine z_astore_nN [(2, .null), (0, .ref a), (1, .int p1)] dX8_existing_8 rfl (by decide) rfl ?_
    refine z_aload_nN 0 dX8_existing_9 rfl rfl ?_
    refine z_ifnonnullN dX8_existing_10 ?_
    exact z_throw 2 (by decide) dX8_existing_13 dX8_existing_16 dX8_existing_17 dX8_existing_20 wc_X8_257 wi_x2 wx_X8_259a wx_X8_259b (by omega) rfl (Nat.le_of_ble_eq_true rfl) (by cases hf; rfl)
  · refine z_astore_n [(2, .ref x3), (0, .ref a), (1, .int p1)] dX8_existing_8 rfl (by decide) rfl ?_
    refine z_aload_n 0 dX8_existing_9 rfl rfl ?_
    refine z_ifnonnull 21 dX8_existing_10 (by decide) ?_
    refine z_aload_n 0 dX8_existing_21 rfl rfl ?_
    exact z_aret dX8_existing_22 rfl (Or.inl ⟨_, rfl⟩) (Or.inr ⟨_, rfl⟩) (by cases hf; rfl)
set_option maxRecDepth 4000 in
theorem zc_X8_player {Γ : zG} {N d : Nat} (hd : 12 ≤ d) {a : Nat} {p1 : Int32} {p2 : Int32} {h : zH} {w : (Int32 ⊕ Nat) × zH} (hf : f_X8_player N a p1 p2 h = some w) : Zm Γ m_X8_player d [.ref a, .int p1, .int p2] h (zoTI w) := by
  unfold f_X8_player at hf
  refine z_meth rfl (plainFor_of_name wpl_X8) (by simp [lg_sl, Value.category, zml, m_X8_player]) ?_
  refine z_aload_n 0 dX8_player_0 rfl rfl ?_
  refine z_iload_n 1 dX8_player_1 rfl rfl ?_
  refine z_cV_ta (d' := d - 1) (As := [.int p1]) (rest := []) dX8_player_2 lk_X8_119 rfl hf (fun w1 e1 => zc_X8_existing (by omega) e1) (by omega) rfl rfl (Nat.le_of_ble_eq_true rfl) (fun y1 x2 hf => ?_) (fun y1 k3 hf => ?_)
  · refine z_astore_n [(3, .ref x2), (0, .ref a), (1, .int p1), (2, .int p2)] dX8_player_5 rfl (by decide) rfl ?_
    refine z_iload_n 3 dX8_player_6 rfl rfl ?_
    by_cases c0 : p2 = (0 : Int32)
    · rw [if_pos c0] at hf
      refine z_tableIn 32 dX8_player_7 (by rw [c0]; decide) (by rw [c0]; decide) (by rw [c0]; rfl) (by decide) ?_
      refine z_aload_n 0 dX8_player_32 rfl rfl ?_
      refine z_getI dX8_player_33 zc1 (by decide) wf_X8_123 hf fun x4 hf => ?_
      exact z_iret dX8_player_36 rfl (by cases hf; rfl)
    · rw [if_neg c0] at hf
      by_cases c1 : p2 = (1 : Int32)
      · rw [if_pos c1] at hf
        refine z_tableIn 37 dX8_player_7 (by rw [c1]; decide) (by rw [c1]; decide) (by rw [c1]; rfl) (by decide) ?_
        refine z_aload_n 0 dX8_player_37 rfl rfl ?_
        refine z_getA dX8_player_38 zc1 (by decide) wf_X8_128 hf fun x5 hf => ?_
        refine z_cV_i (d' := d - 1) (As := []) (rest := []) dX8_player_41 lk_X8_93 rfl hf (fun w1 e1 => zc_X6_size (by omega) e1) (by omega) rfl rfl (Nat.le_of_ble_eq_true rfl) fun y6 hf => ?_
        exact z_iret dX8_player_44 rfl (by cases hf; rfl)
      · rw [if_neg c1] at hf
        by_cases c2 : p2 = (2 : Int32)
        · rw [if_pos c2] at hf
          refine z_tableIn 45 dX8_player_7 (by rw [c2]; decide) (by rw [c2]; decide) (by rw [c2]; rfl) (by decide) ?_
          refine z_aload_n 0 dX8_player_45 rfl rfl ?_
          refine z_getI dX8_player_46 zc1 (by decide) wf_X8_131 hf fun x7 hf => ?_
          exact z_iret dX8_player_49 rfl (by cases hf; rfl)
        · rw [if_neg c2] at hf
          refine z_tableOut 50 dX8_player_7 (by have q := z_sw_out (x := p2) (lo := (0 : Int)) (n := 3) (by decide) (by decide) (lt_s (i := 2) (lt_s (i := 1) (lt_s (i := 0) lt_0 (fun e => c0 (e.trans (by decide)))) (fun e => c1 (e.trans (by decide)))) (fun e => c2 (e.trans (by decide)))); omega) (by decide) ?_
          exact z_throw 1 (by decide) dX8_player_50 dX8_player_53 dX8_player_54 dX8_player_57 wc_X8_62 wi_x1 wx_X8_64a wx_X8_64b (by omega) rfl (Nat.le_of_ble_eq_true rfl) (by cases hf; rfl)
  · exact zx_out rfl (by cases hf; rfl)
set_option maxRecDepth 4000 in
theorem zc_L_player {Γ : zG} {N d : Nat} (hd : 13 ≤ d) {p1 : Nat} {p2 : Int32} {p3 : Int32} {p4 : Nat} {h : zH} {w : Int32 × zH} (hf : f_L_player N p1 p2 p3 p4 h = some w) : Zm Γ m_L_player d [.ref p1, .int p2, .int p3, .ref p4] h (zoI w) := by
  unfold f_L_player at hf
  refine z_methH (by decide) (by decide +kernel) (by simp [lg_sl, Value.category, zml, m_L_player]) ?_
  refine z_aload_n 3 dL_player_0 rfl rfl ?_
  refine z_iconst (0 : Int32) dL_player_1 (by decide) ?_
  refine z_aload_n 0 dL_player_2 rfl rfl ?_
  refine z_iload_n 1 dL_player_3 rfl rfl ?_
  refine z_iload_n 2 dL_player_4 rfl rfl ?_
  refine z_cV_ti (d' := d - 1) (As := [.int p2, .int p3]) (rest := [.int (0 : Int32), .ref p4]) dL_player_5 lk_L_18 rfl hf (fun w1 e1 => zc_X8_player (by omega) e1) (by omega) rfl rfl (Nat.le_of_ble_eq_true rfl) (fun y1 x2 hf => ?_) (fun y1 k3 hf => ?_)
  · refine z_i2l dL_player_8 ?_
    refine z_lastore dL_player_9 hf fun h4 hf => ?_
    refine z_goto 21 dL_player_10 (by decide) ?_
    refine z_iconst (0 : Int32) dL_player_21 (by decide) ?_
    exact z_iret dL_player_22 rfl (by cases hf; rfl)
  · by_cases e0 : k3 = 2
    · rw [if_pos e0] at hf
      subst e0
      refine zx_catch (by decide) [] (0, 10, 13, 22) [(0, 10, 17, 13)] rfl (fun z hz => absurd hz List.not_mem_nil) (by decide) (by decide) wc_L_22 wct_2 fun q5 => ?_
      refine z_astore [(4, .ref q5), (0, .ref p1), (1, .int p2), (2, .int p3), (3, .ref p4)] dL_player_13 (by decide) rfl ?_
      refine z_iconst (1 : Int32) dL_player_15 (by decide) ?_
      exact z_iret dL_player_16 rfl (by cases hf; rfl)
    · rw [if_neg e0] at hf
      by_cases e1 : k3 = 1
      · rw [if_pos e1] at hf
        subst e1
        refine zx_catch (by decide) [(0, 10, 13, 22)] (0, 10, 17, 13) [] rfl (List.forall_mem_cons.mpr ⟨⟨by decide, 2, by decide, by decide, wc_L_22⟩, fun z hz => absurd hz List.not_mem_nil⟩) (by decide) (by decide) wc_L_13 wct_1 fun q6 => ?_
        refine z_astore [(4, .ref q6), (0, .ref p1), (1, .int p2), (2, .int p3), (3, .ref p4)] dL_player_17 (by decide) rfl ?_
        refine z_iconst (2 : Int32) dL_player_19 (by decide) ?_
        exact z_iret dL_player_20 rfl (by cases hf; rfl)
      · rw [if_neg e1] at hf
        cases hf

set_option maxRecDepth 4000 in
theorem zl_X7_isWord_28 {Γ : zG} {N d : Nat} {h0 : zH} (hd : 25 ≤ d) {v0 : Nat} {v1 : Nat}  {w : Int32 × zH}   : ∀ (n : Nat) (v2 : Int32) (h : zH), f_X7_isWord_l28 N v0 v1 n v2 h = some w → Z Γ m_X7_isWord d h0 (zoI w) 28 [(0, .ref v0), (1, .ref (zKa Γ v1)), (2, .int v2)] [] h := by
  intro n
  induction n with
  | zero => intro v2 h hf; cases hf
  | succ n ih =>
    intro v2 h hf
    rw [f_X7_isWord_l28] at hf
    refine z_iload_n 2 dX7_isWord_28 rfl rfl ?_
    refine z_aload_n 1 dX7_isWord_29 rfl rfl ?_
    refine z_lnS dX7_isWord_30 lk_X7_99 (by omega) (Nat.le_of_ble_eq_true rfl) hf fun x5 hf => ?_
    refine z_icmp_ge 76 dX7_isWord_33 (by decide) hf (fun hf => ?_) (fun hf => ?_)
    · refine z_iconst (1 : Int32) dX7_isWord_76 (by decide) ?_
      exact z_zret dX7_isWord_77 rfl (Or.inr rfl) (by cases hf; rfl)
    · refine z_aload_n 0 dX7_isWord_36 rfl rfl ?_
      refine z_getI dX7_isWord_37 zc7 (by decide) wf_X7_85 hf fun x6 hf => ?_
      refine z_iload_n 2 dX7_isWord_40 rfl rfl ?_
      refine z_iadd dX7_isWord_41 ?_
      refine z_istore_n [(3, .int (x6 + v2)), (0, .ref v0), (1, .ref (zKa Γ v1)), (2, .int v2)] dX7_isWord_42 rfl (by decide) rfl ?_
      refine z_iload_n 0 dX7_isWord_43 rfl rfl ?_
      refine z_if_lt 68 dX7_isWord_44 (by decide) hf (fun hf => ?_) (fun hf => ?_)
      · refine z_iconst (0 : Int32) dX7_isWord_68 (by decide) ?_
        exact z_zret dX7_isWord_69 rfl (Or.inl rfl) (by cases hf; rfl)
      · refine z_iload_n 0 dX7_isWord_47 rfl rfl ?_
        refine z_sipush (700 : Int32) dX7_isWord_48 (by decide) ?_
        refine z_icmp_ge 68 dX7_isWord_51 (by decide) hf (fun hf => ?_) (fun hf => ?_)
        · refine z_iconst (0 : Int32) dX7_isWord_68 (by decide) ?_
          exact z_zret dX7_isWord_69 rfl (Or.inl rfl) (by cases hf; rfl)
        · refine z_aload_n 1 dX7_isWord_54 rfl rfl ?_
          refine z_getA dX7_isWord_55 zc7 (by decide) wf_X7_15 hf fun x7 hf => ?_
          refine z_iload_n 0 dX7_isWord_58 rfl rfl ?_
          refine z_iaload dX7_isWord_59 hf fun x8 hf => ?_
          refine z_aload_n 2 dX7_isWord_60 rfl rfl ?_
          refine z_iload_n 3 dX7_isWord_61 rfl rfl ?_
          refine z_chS dX7_isWord_62 lk_X7_104 (by omega) (Nat.le_of_ble_eq_true rfl) hf fun x9 hf => ?_
          refine z_icmp_eq 70 dX7_isWord_65 (by decide) hf (fun hf => ?_) (fun hf => ?_)
          · refine z_iinc (v2 + (1 : Int32)) 3 [(2, .int (v2 + (1 : Int32))), (3, .int (x6 + v2)), (0, .ref v0), (1, .ref (zKa Γ v1))] dX7_isWord_70 rfl rfl (by decide) rfl ?_
            refine z_goto 28 dX7_isWord_73 (by decide) ?_
            exact Z.sub [2, 3, 0] rfl (ih (v2 + (1 : Int32)) h hf)
          · refine z_iconst (0 : Int32) dX7_isWord_68 (by decide) ?_
            exact z_zret dX7_isWord_69 rfl (Or.inl rfl) (by cases hf; rfl)
set_option maxRecDepth 4000 in
theorem zc_X7_isWord {Γ : zG} {N d : Nat} (hd : 25 ≤ d) {a : Nat} {p1 : Nat} {h : zH} {w : Int32 × zH} (hf : f_X7_isWord N a p1 h = some w) : Zm Γ m_X7_isWord d [.ref a, .ref (zKa Γ p1)] h (zoI w) := by
  unfold f_X7_isWord at hf
  refine z_meth rfl (plainFor_of_name wpl_X7) (by simp [lg_sl, Value.category, zml, m_X7_isWord]) ?_
  refine z_aload_n 0 dX7_isWord_0 rfl rfl ?_
  refine z_getI dX7_isWord_1 zc7 (by decide) wf_X7_79 hf fun x1 hf => ?_
  refine z_iconst (2 : Int32) dX7_isWord_4 (by decide) ?_
  refine z_icmp_ne 24 dX7_isWord_5 (by decide) hf (fun hf => ?_) (fun hf => ?_)
  · refine z_aload_n 0 dX7_isWord_8 rfl rfl ?_
    refine z_getI dX7_isWord_9 zc7 (by decide) wf_X7_59 hf fun x2 hf => ?_
    refine z_aload_n 0 dX7_isWord_12 rfl rfl ?_
    refine z_getI dX7_isWord_13 zc7 (by decide) wf_X7_85 hf fun x3 hf => ?_
    refine z_isub dX7_isWord_16 ?_
    refine z_aload_n 1 dX7_isWord_17 rfl rfl ?_
    refine z_lnS dX7_isWord_18 lk_X7_99 (by omega) (Nat.le_of_ble_eq_true rfl) hf fun x4 hf => ?_
    refine z_icmp_eq 26 dX7_isWord_21 (by decide) hf (fun hf => ?_) (fun hf => ?_)
    · refine z_iconst (0 : Int32) dX7_isWord_26 (by decide) ?_
      refine z_istore_n [(2, .int (0 : Int32)), (0, .ref a), (1, .ref (zKa Γ p1))] dX7_isWord_27 rfl (by decide) rfl ?_
      refine Z.sub [1, 2, 0] rfl (zl_X7_isWord_28 hd  N (0 : Int32) h hf)
    · refine z_iconst (0 : Int32) dX7_isWord_24 (by decide) ?_
      exact z_zret dX7_isWord_25 rfl (Or.inl rfl) (by cases hf; rfl)
  · refine z_iconst (0 : Int32) dX7_isWord_24 (by decide) ?_
    exact z_zret dX7_isWord_25 rfl (Or.inl rfl) (by cases hf; rfl)
set_option maxRecDepth 4000 in
theorem zc_X7_fail {Γ : zG} {N d : Nat} (hd : 10 ≤ d) {a : Nat} {p1 : Int32} {p2 : Int32} {h : zH} {w : Int32 × zH} (hf : f_X7_fail N a p1 p2 h = some w) : Zm Γ m_X7_fail d [.ref a, .int p1, .int p2] h (zoI w) := by
  unfold f_X7_fail at hf
  refine z_meth rfl (plainFor_of_name wpl_X7) (by simp [lg_sl, Value.category, zml, m_X7_fail]) ?_
  refine z_aload_n 0 dX7_fail_0 rfl rfl ?_
  refine z_iload_n 1 dX7_fail_1 rfl rfl ?_
  refine z_putB dX7_fail_2 zc7 (by decide) wf_X7_69 (Or.inl rfl) rfl rfl hf fun h1 hf => ?_
  refine z_aload_n 0 dX7_fail_5 rfl rfl ?_
  refine z_iload_n 2 dX7_fail_6 rfl rfl ?_
  refine z_putB dX7_fail_7 zc7 (by decide) wf_X7_41 (Or.inl rfl) rfl rfl hf fun h2 hf => ?_
  refine z_iconst (0 : Int32) dX7_fail_10 (by decide) ?_
  exact z_zret dX7_fail_11 rfl (Or.inl rfl) (by cases hf; rfl)
set_option maxRecDepth 4000 in
theorem zj_X7_takeNumber_35 {Γ : zG} {N d : Nat} {h0 : zH} (hd : 12 ≤ d) {v0 : Nat}  {h : zH} {w : Int32 × zH} (hf : f_X7_takeNumber_j35 N v0  h = some w) : Z Γ m_X7_takeNumber d h0 (zoI w) 35 [(0, .ref v0)] [] h := by
  unfold f_X7_takeNumber_j35 at hf
  refine z_aload_n 0 dX7_takeNumber_35 rfl rfl ?_
  refine z_bipush (-3 : Int32) dX7_takeNumber_36 (by decide) ?_
  refine z_aload_n 0 dX7_takeNumber_38 rfl rfl ?_
  refine z_getI dX7_takeNumber_39 zc7 (by decide) wf_X7_85 hf fun x3 hf => ?_
  refine z_cV_i (d' := d - 1) (As := [.int (-3 : Int32), .int x3]) (rest := []) dX7_takeNumber_42 lk_X7_112 rfl hf (fun w1 e1 => zc_X7_fail (by omega) e1) (by omega) rfl rfl (Nat.le_of_ble_eq_true rfl) fun y4 hf => ?_
  obtain ⟨x5, hz, hf⟩ := Option.bind_eq_some_iff.mp hf
  obtain ⟨hb, rfl⟩ := zB_of hz
  exact z_zret dX7_takeNumber_45 rfl hb (by cases hf; rfl)
set_option maxRecDepth 4000 in
theorem zc_X7_takeNumber {Γ : zG} {N d : Nat} (hd : 12 ≤ d) {a : Nat} {p1 : Int32} {p2 : Int32} {h : zH} {w : Int32 × zH} (hf : f_X7_takeNumber N a p1 p2 h = some w) : Zm Γ m_X7_takeNumber d [.ref a, .int p1, .int p2] h (zoI w) := by
  unfold f_X7_takeNumber at hf
  refine z_meth rfl (plainFor_of_name wpl_X7) (by simp [lg_sl, Value.category, zml, m_X7_takeNumber]) ?_
  refine z_aload_n 0 dX7_takeNumber_0 rfl rfl ?_
  refine z_getI dX7_takeNumber_1 zc7 (by decide) wf_X7_79 hf fun x1 hf => ?_
  refine z_iconst (1 : Int32) dX7_takeNumber_4 (by decide) ?_
  refine z_icmp_eq 19 dX7_takeNumber_5 (by decide) hf (fun hf => ?_) (fun hf => ?_)
  · refine z_aload_n 0 dX7_takeNumber_19 rfl rfl ?_
    refine z_getI dX7_takeNumber_20 zc7 (by decide) wf_X7_88 hf fun x2 hf => ?_
    refine z_iload_n 1 dX7_takeNumber_23 rfl rfl ?_
    refine z_icmp_lt 35 dX7_takeNumber_24 (by decide) hf (fun hf => ?_) (fun hf => ?_)
    · exact Z.sub [0] rfl (zj_X7_takeNumber_35 hd hf)
    · refine z_aload_n 0 dX7_takeNumber_27 rfl rfl ?_
      refine z_getI dX7_takeNumber_28 zc7 (by decide) wf_X7_88 hf fun x6 hf => ?_
      refine z_iload_n 2 dX7_takeNumber_31 rfl rfl ?_
      refine z_icmp_le 46 dX7_takeNumber_32 (by decide) hf (fun hf => ?_) (fun hf => ?_)
      · refine z_aload_n 0 dX7_takeNumber_46 rfl rfl ?_
        refine z_aload_n 0 dX7_takeNumber_47 rfl rfl ?_
        refine z_getI dX7_takeNumber_48 zc7 (by decide) wf_X7_88 hf fun x7 hf => ?_
        refine z_putB dX7_takeNumber_51 zc7 (by decide) wf_X7_116 (Or.inl rfl) rfl rfl hf fun h8 hf => ?_
        refine z_aload_n 0 dX7_takeNumber_54 rfl rfl ?_
        refine z_cV_v (d' := d - 1) (As := []) (rest := []) dX7_takeNumber_55 lk_X7_72 rfl hf (fun w1 e1 => zc_X7_advance (by omega) e1) (by omega) rfl rfl (Nat.le_of_ble_eq_true rfl) fun y9 hf => ?_
        refine z_iconst (1 : Int32) dX7_takeNumber_58 (by decide) ?_
        exact z_zret dX7_takeNumber_59 rfl (Or.inr rfl) (by cases hf; rfl)
      · exact Z.sub [0] rfl (zj_X7_takeNumber_35 hd hf)
  · refine z_aload_n 0 dX7_takeNumber_8 rfl rfl ?_
    refine z_bipush (-2 : Int32) dX7_takeNumber_9 (by decide) ?_
    refine z_aload_n 0 dX7_takeNumber_11 rfl rfl ?_
    refine z_getI dX7_takeNumber_12 zc7 (by decide) wf_X7_85 hf fun x10 hf => ?_
    refine z_cV_i (d' := d - 1) (As := [.int (-2 : Int32), .int x10]) (rest := []) dX7_takeNumber_15 lk_X7_112 rfl hf (fun w1 e1 => zc_X7_fail (by omega) e1) (by omega) rfl rfl (Nat.le_of_ble_eq_true rfl) fun y11 hf => ?_
    obtain ⟨x12, hz, hf⟩ := Option.bind_eq_some_iff.mp hf
    obtain ⟨hb, rfl⟩ := zB_of hz
    exact z_zret dX7_takeNumber_18 rfl hb (by cases hf; rfl)
set_option maxRecDepth 4000 in
theorem zc_X7_isSign {Γ : zG} {N d : Nat} (hd : 10 ≤ d) {a : Nat} {p1 : Int32} {h : zH} {w : Int32 × zH} (hf : f_X7_isSign N a p1 h = some w) : Zm Γ m_X7_isSign d [.ref a, .int p1] h (zoI w) := by
  unfold f_X7_isSign at hf
  refine z_meth rfl (plainFor_of_name wpl_X7) (by simp [lg_sl, Value.category, zml, m_X7_isSign]) ?_
  refine z_aload_n 0 dX7_isSign_0 rfl rfl ?_
  refine z_getI dX7_isSign_1 zc7 (by decide) wf_X7_79 hf fun x1 hf => ?_
  refine z_iconst (3 : Int32) dX7_isSign_4 (by decide) ?_
  refine z_icmp_ne 42 dX7_isSign_5 (by decide) hf (fun hf => ?_) (fun hf => ?_)
  · refine z_aload_n 0 dX7_isSign_8 rfl rfl ?_
    refine z_getI dX7_isSign_9 zc7 (by decide) wf_X7_85 hf fun x2 hf => ?_
    refine z_if_lt 42 dX7_isSign_12 (by decide) hf (fun hf => ?_) (fun hf => ?_)
    · refine z_iconst (0 : Int32) dX7_isSign_42 (by decide) ?_
      exact z_zret dX7_isSign_43 rfl (Or.inl rfl) (by cases hf; rfl)
    · refine z_aload_n 0 dX7_isSign_15 rfl rfl ?_
      refine z_getI dX7_isSign_16 zc7 (by decide) wf_X7_85 hf fun x3 hf => ?_
      refine z_sipush (700 : Int32) dX7_isSign_19 (by decide) ?_
      refine z_icmp_ge 42 dX7_isSign_22 (by decide) hf (fun hf => ?_) (fun hf => ?_)
      · refine z_iconst (0 : Int32) dX7_isSign_42 (by decide) ?_
        exact z_zret dX7_isSign_43 rfl (Or.inl rfl) (by cases hf; rfl)
      · refine z_aload_n 0 dX7_isSign_25 rfl rfl ?_
        refine z_getA dX7_isSign_26 zc7 (by decide) wf_X7_15 hf fun x4 hf => ?_
        refine z_aload_n 0 dX7_isSign_29 rfl rfl ?_
        refine z_getI dX7_isSign_30 zc7 (by decide) wf_X7_85 hf fun x5 hf => ?_
        refine z_iaload dX7_isSign_33 hf fun x6 hf => ?_
        refine z_iload_n 1 dX7_isSign_34 rfl rfl ?_
        refine z_icmp_ne 42 dX7_isSign_35 (by decide) hf (fun hf => ?_) (fun hf => ?_)
        · refine z_iconst (1 : Int32) dX7_isSign_38 (by decide) ?_
          refine z_goto 43 dX7_isSign_39 (by decide) ?_
          exact z_zret dX7_isSign_43 rfl (Or.inr rfl) (by cases hf; rfl)
        · refine z_iconst (0 : Int32) dX7_isSign_42 (by decide) ?_
          exact z_zret dX7_isSign_43 rfl (Or.inl rfl) (by cases hf; rfl)
  · refine z_iconst (0 : Int32) dX7_isSign_42 (by decide) ?_
    exact z_zret dX7_isSign_43 rfl (Or.inl rfl) (by cases hf; rfl)
set_option maxRecDepth 4000 in
theorem zc_X7_takeSign {Γ : zG} {N d : Nat} (hd : 12 ≤ d) {a : Nat} {p1 : Int32} {h : zH} {w : Int32 × zH} (hf : f_X7_takeSign N a p1 h = some w) : Zm Γ m_X7_takeSign d [.ref a, .int p1] h (zoI w) := by
  unfold f_X7_takeSign at hf
  refine z_meth rfl (plainFor_of_name wpl_X7) (by simp [lg_sl, Value.category, zml, m_X7_takeSign]) ?_
  refine z_aload_n 0 dX7_takeSign_0 rfl rfl ?_
  refine z_iload_n 1 dX7_takeSign_1 rfl rfl ?_
  refine z_cV_i (d' := d - 1) (As := [.int p1]) (rest := []) dX7_takeSign_2 lk_X7_108 rfl hf (fun w1 e1 => zc_X7_isSign (by omega) e1) (by omega) rfl rfl (Nat.le_of_ble_eq_true rfl) fun y1 hf => ?_
  refine z_if_ne 19 dX7_takeSign_5 (by decide) hf (fun hf => ?_) (fun hf => ?_)
  · refine z_aload_n 0 dX7_takeSign_8 rfl rfl ?_
    refine z_bipush (-2 : Int32) dX7_takeSign_9 (by decide) ?_
    refine z_aload_n 0 dX7_takeSign_11 rfl rfl ?_
    refine z_getI dX7_takeSign_12 zc7 (by decide) wf_X7_85 hf fun x3 hf => ?_
    refine z_cV_i (d' := d - 1) (As := [.int (-2 : Int32), .int x3]) (rest := []) dX7_takeSign_15 lk_X7_112 rfl hf (fun w1 e1 => zc_X7_fail (by omega) e1) (by omega) rfl rfl (Nat.le_of_ble_eq_true rfl) fun y4 hf => ?_
    obtain ⟨x5, hz, hf⟩ := Option.bind_eq_some_iff.mp hf
    obtain ⟨hb, rfl⟩ := zB_of hz
    exact z_zret dX7_takeSign_18 rfl hb (by cases hf; rfl)
  · refine z_aload_n 0 dX7_takeSign_19 rfl rfl ?_
    refine z_cV_v (d' := d - 1) (As := []) (rest := []) dX7_takeSign_20 lk_X7_72 rfl hf (fun w1 e1 => zc_X7_advance (by omega) e1) (by omega) rfl rfl (Nat.le_of_ble_eq_true rfl) fun y2 hf => ?_
    refine z_iconst (1 : Int32) dX7_takeSign_23 (by decide) ?_
    exact z_zret dX7_takeSign_24 rfl (Or.inr rfl) (by cases hf; rfl)
set_option maxRecDepth 4000 in
theorem zc_X7_takeGroup {Γ : zG} {N d : Nat} (hd : 26 ≤ d) {a : Nat} {h : zH} {w : Int32 × zH} (hf : f_X7_takeGroup N a h = some w) : Zm Γ m_X7_takeGroup d [.ref a] h (zoI w) := by
  unfold f_X7_takeGroup at hf
  refine z_meth rfl (plainFor_of_name wpl_X7) (by simp [lg_sl, Value.category, zml, m_X7_takeGroup]) ?_
  refine z_aload_n 0 dX7_takeGroup_0 rfl rfl ?_
  refine z_ldcS7 (i := 0) (by decide) rfl rfl dX7_takeGroup_1 ?_
  refine z_cV_i (d' := d - 1) (As := [.ref (zKa Γ 0)]) (rest := []) dX7_takeGroup_3 lk_X7_128 rfl hf (fun w1 e1 => zc_X7_isWord (by omega) e1) (by omega) rfl rfl (Nat.le_of_ble_eq_true rfl) fun y1 hf => ?_
  refine z_if_ne 20 dX7_takeGroup_6 (by decide) hf (fun hf => ?_) (fun hf => ?_)
  · refine z_aload_n 0 dX7_takeGroup_9 rfl rfl ?_
    refine z_bipush (-2 : Int32) dX7_takeGroup_10 (by decide) ?_
    refine z_aload_n 0 dX7_takeGroup_12 rfl rfl ?_
    refine z_getI dX7_takeGroup_13 zc7 (by decide) wf_X7_85 hf fun x9 hf => ?_
    refine z_cV_i (d' := d - 1) (As := [.int (-2 : Int32), .int x9]) (rest := []) dX7_takeGroup_16 lk_X7_112 rfl hf (fun w1 e1 => zc_X7_fail (by omega) e1) (by omega) rfl rfl (Nat.le_of_ble_eq_true rfl) fun y10 hf => ?_
    obtain ⟨x11, hz, hf⟩ := Option.bind_eq_some_iff.mp hf
    obtain ⟨hb, rfl⟩ := zB_of hz
    exact z_zret dX7_takeGroup_19 rfl hb (by cases hf; rfl)
  · refine z_aload_n 0 dX7_takeGroup_20 rfl rfl ?_
    refine z_cV_v (d' := d - 1) (As := []) (rest := []) dX7_takeGroup_21 lk_X7_72 rfl hf (fun w1 e1 => zc_X7_advance (by omega) e1) (by omega) rfl rfl (Nat.le_of_ble_eq_true rfl) fun y2 hf => ?_
    refine z_aload_n 0 dX7_takeGroup_24 rfl rfl ?_
    refine z_iconst (2 : Int32) dX7_takeGroup_25 (by decide) ?_
    refine z_iconst (5 : Int32) dX7_takeGroup_26 (by decide) ?_
    refine z_cV_i (d' := d - 1) (As := [.int (2 : Int32), .int (5 : Int32)]) (rest := []) dX7_takeGroup_27 lk_X7_132 rfl hf (fun w1 e1 => zc_X7_takeNumber (by omega) e1) (by omega) rfl rfl (Nat.le_of_ble_eq_true rfl) fun y3 hf => ?_
    refine z_if_ne 35 dX7_takeGroup_30 (by decide) hf (fun hf => ?_) (fun hf => ?_)
    · refine z_iconst (0 : Int32) dX7_takeGroup_33 (by decide) ?_
      exact z_zret dX7_takeGroup_34 rfl (Or.inl rfl) (by cases hf; rfl)
    · refine z_aload_n 0 dX7_takeGroup_35 rfl rfl ?_
      refine z_getA dX7_takeGroup_36 zc7 (by decide) wf_X7_33 hf fun x4 hf => ?_
      refine z_aload_n 0 dX7_takeGroup_39 rfl rfl ?_
      refine z_getI dX7_takeGroup_40 zc7 (by decide) wf_X7_116 hf fun x5 hf => ?_
      refine z_putB dX7_takeGroup_43 zc0 (by decide) wf_X7_119 (Or.inl rfl) rfl rfl hf fun h6 hf => ?_
      refine z_aload_n 0 dX7_takeGroup_46 rfl rfl ?_
      refine z_bipush (59 : Int32) dX7_takeGroup_47 (by decide) ?_
      refine z_cV_i (d' := d - 1) (As := [.int (59 : Int32)]) (rest := []) dX7_takeGroup_49 lk_X7_135 rfl hf (fun w1 e1 => zc_X7_takeSign (by omega) e1) (by omega) rfl rfl (Nat.le_of_ble_eq_true rfl) fun y7 hf => ?_
      obtain ⟨x8, hz, hf⟩ := Option.bind_eq_some_iff.mp hf
      obtain ⟨hb, rfl⟩ := zB_of hz
      exact z_zret dX7_takeGroup_52 rfl hb (by cases hf; rfl)
set_option maxRecDepth 4000 in
theorem zc_X1_start {Γ : zG} {N d : Nat} (hd : 11 ≤ d) {a : Nat} {p1 : Int32} {h : zH} {w : zH} (hf : f_X1_start N a p1 h = some w) : Zm Γ m_X1_start d [.ref a, .int p1] h (zoV w) := by
  unfold f_X1_start at hf
  refine z_meth rfl (plainFor_of_name wpl_X1) (by simp [lg_sl, Value.category, zml, m_X1_start]) ?_
  refine z_aload_n 0 dX1_start_0 rfl rfl ?_
  refine z_iload_n 1 dX1_start_1 rfl rfl ?_
  refine z_putB dX1_start_2 zc1 (by decide) wf_X1_23 (Or.inl rfl) rfl rfl hf fun h1 hf => ?_
  refine z_aload_n 0 dX1_start_5 rfl rfl ?_
  refine z_iconst (0 : Int32) dX1_start_6 (by decide) ?_
  refine z_putB dX1_start_7 zc1 (by decide) wf_X1_27 (Or.inl rfl) rfl rfl hf fun h2 hf => ?_
  refine z_aload_n 0 dX1_start_10 rfl rfl ?_
  refine z_getA dX1_start_11 zc1 (by decide) wf_X1_14 hf fun x3 hf => ?_
  refine z_cV_v (d' := d - 1) (As := []) (rest := []) dX1_start_14 lk_X1_30 rfl hf (fun w1 e1 => zc_X6_clear (by omega) e1) (by omega) rfl rfl (Nat.le_of_ble_eq_true rfl) fun y4 hf => ?_
  refine z_aload_n 0 dX1_start_17 rfl rfl ?_
  refine z_getA dX1_start_18 zc1 (by decide) wf_X1_20 hf fun x5 hf => ?_
  refine z_cV_v (d' := d - 1) (As := []) (rest := []) dX1_start_21 lk_X1_30 rfl hf (fun w1 e1 => zc_X6_clear (by omega) e1) (by omega) rfl rfl (Nat.le_of_ble_eq_true rfl) fun y6 hf => ?_
  exact z_vret dX1_start_24 rfl (by cases hf; rfl)
set_option maxRecDepth 4000 in
theorem zc_X0_addPlayer {Γ : zG} {N d : Nat} (hd : 12 ≤ d) {a : Nat} {p1 : Int32} {h : zH} {w : zH} (hf : f_X0_addPlayer N a p1 h = some w) : Zm Γ m_X0_addPlayer d [.ref a, .int p1] h (zoV w) := by
  unfold f_X0_addPlayer at hf
  refine z_meth rfl (plainFor_of_name wpl_X0) (by simp [lg_sl, Value.category, zml, m_X0_addPlayer]) ?_
  refine z_aload_n 0 dX0_addPlayer_0 rfl rfl ?_
  refine z_getI dX0_addPlayer_1 zc0 (by decide) wf_X0_56 hf fun x1 hf => ?_
  refine z_if_lt 38 dX0_addPlayer_4 (by decide) hf (fun hf => ?_) (fun hf => ?_)
  · exact z_vret dX0_addPlayer_38 rfl (by cases hf; rfl)
  · refine z_aload_n 0 dX0_addPlayer_7 rfl rfl ?_
    refine z_getI dX0_addPlayer_8 zc0 (by decide) wf_X0_56 hf fun x2 hf => ?_
    refine z_iconst (5 : Int32) dX0_addPlayer_11 (by decide) ?_
    refine z_icmp_ge 38 dX0_addPlayer_12 (by decide) hf (fun hf => ?_) (fun hf => ?_)
    · exact z_vret dX0_addPlayer_38 rfl (by cases hf; rfl)
    · refine z_aload_n 0 dX0_addPlayer_15 rfl rfl ?_
      refine z_getA dX0_addPlayer_16 zc0 (by decide) wf_X0_17 hf fun x3 hf => ?_
      refine z_aload_n 0 dX0_addPlayer_19 rfl rfl ?_
      refine z_getI dX0_addPlayer_20 zc0 (by decide) wf_X0_56 hf fun x4 hf => ?_
      refine z_aaload dX0_addPlayer_23 hf fun x5 hf => ?_
      refine z_iload_n 1 dX0_addPlayer_24 rfl rfl ?_
      refine z_cV_v (d' := d - 1) (As := [.int p1]) (rest := []) dX0_addPlayer_25 lk_X0_87 rfl hf (fun w1 e1 => zc_X1_start (by omega) e1) (by omega) rfl rfl (Nat.le_of_ble_eq_true rfl) fun y6 hf => ?_
      refine z_aload_n 0 dX0_addPlayer_28 rfl rfl ?_
      refine z_dup dX0_addPlayer_29 rfl ?_
      refine z_getI dX0_addPlayer_30 zc0 (by decide) wf_X0_56 hf fun x7 hf => ?_
      refine z_iconst (1 : Int32) dX0_addPlayer_33 (by decide) ?_
      refine z_iadd dX0_addPlayer_34 ?_
      refine z_putB dX0_addPlayer_35 zc0 (by decide) wf_X0_56 (Or.inl rfl) rfl rfl hf fun h8 hf => ?_
      exact z_vret dX0_addPlayer_38 rfl (by cases hf; rfl)
set_option maxRecDepth 4000 in
theorem zc_X7_takePlayer {Γ : zG} {N d : Nat} (hd : 13 ≤ d) {a : Nat} {h : zH} {w : Int32 × zH} (hf : f_X7_takePlayer N a h = some w) : Zm Γ m_X7_takePlayer d [.ref a] h (zoI w) := by
  unfold f_X7_takePlayer at hf
  refine z_meth rfl (plainFor_of_name wpl_X7) (by simp [lg_sl, Value.category, zml, m_X7_takePlayer]) ?_
  refine z_aload_n 0 dX7_takePlayer_0 rfl rfl ?_
  refine z_getA dX7_takePlayer_1 zc7 (by decide) wf_X7_33 hf fun x1 hf => ?_
  refine z_getI dX7_takePlayer_4 zc0 (by decide) wf_X7_158 hf fun x2 hf => ?_
  refine z_iconst (5 : Int32) dX7_takePlayer_7 (by decide) ?_
  refine z_icmp_lt 22 dX7_takePlayer_8 (by decide) hf (fun hf => ?_) (fun hf => ?_)
  · refine z_aload_n 0 dX7_takePlayer_22 rfl rfl ?_
    refine z_cV_v (d' := d - 1) (As := []) (rest := []) dX7_takePlayer_23 lk_X7_72 rfl hf (fun w1 e1 => zc_X7_advance (by omega) e1) (by omega) rfl rfl (Nat.le_of_ble_eq_true rfl) fun y3 hf => ?_
    refine z_aload_n 0 dX7_takePlayer_26 rfl rfl ?_
    refine z_iconst (0 : Int32) dX7_takePlayer_27 (by decide) ?_
    refine z_ldc (99999 : Int32) dX7_takePlayer_28 wk_X7_161 ?_
    refine z_cV_i (d' := d - 1) (As := [.int (0 : Int32), .int (99999 : Int32)]) (rest := []) dX7_takePlayer_30 lk_X7_132 rfl hf (fun w1 e1 => zc_X7_takeNumber (by omega) e1) (by omega) rfl rfl (Nat.le_of_ble_eq_true rfl) fun y4 hf => ?_
    refine z_if_ne 38 dX7_takePlayer_33 (by decide) hf (fun hf => ?_) (fun hf => ?_)
    · refine z_iconst (0 : Int32) dX7_takePlayer_36 (by decide) ?_
      exact z_zret dX7_takePlayer_37 rfl (Or.inl rfl) (by cases hf; rfl)
    · refine z_aload_n 0 dX7_takePlayer_38 rfl rfl ?_
      refine z_getA dX7_takePlayer_39 zc7 (by decide) wf_X7_33 hf fun x5 hf => ?_
      refine z_aload_n 0 dX7_takePlayer_42 rfl rfl ?_
      refine z_getI dX7_takePlayer_43 zc7 (by decide) wf_X7_116 hf fun x6 hf => ?_
      refine z_cV_v (d' := d - 1) (As := [.int x6]) (rest := []) dX7_takePlayer_46 lk_X7_162 rfl hf (fun w1 e1 => zc_X0_addPlayer (by omega) e1) (by omega) rfl rfl (Nat.le_of_ble_eq_true rfl) fun y7 hf => ?_
      refine z_iconst (1 : Int32) dX7_takePlayer_49 (by decide) ?_
      exact z_zret dX7_takePlayer_50 rfl (Or.inr rfl) (by cases hf; rfl)
  · refine z_aload_n 0 dX7_takePlayer_11 rfl rfl ?_
    refine z_bipush (-4 : Int32) dX7_takePlayer_12 (by decide) ?_
    refine z_aload_n 0 dX7_takePlayer_14 rfl rfl ?_
    refine z_getI dX7_takePlayer_15 zc7 (by decide) wf_X7_85 hf fun x8 hf => ?_
    refine z_cV_i (d' := d - 1) (As := [.int (-4 : Int32), .int x8]) (rest := []) dX7_takePlayer_18 lk_X7_112 rfl hf (fun w1 e1 => zc_X7_fail (by omega) e1) (by omega) rfl rfl (Nat.le_of_ble_eq_true rfl) fun y9 hf => ?_
    obtain ⟨x10, hz, hf⟩ := Option.bind_eq_some_iff.mp hf
    obtain ⟨hb, rfl⟩ := zB_of hz
    exact z_zret dX7_takePlayer_21 rfl hb (by cases hf; rfl)
set_option maxRecDepth 4000 in
theorem zc_X7_takeElement {Γ : zG} {N d : Nat} (hd : 12 ≤ d) {a : Nat} {h : zH} {w : Int32 × zH} (hf : f_X7_takeElement N a h = some w) : Zm Γ m_X7_takeElement d [.ref a] h (zoI w) := by
  unfold f_X7_takeElement at hf
  refine z_meth rfl (plainFor_of_name wpl_X7) (by simp [lg_sl, Value.category, zml, m_X7_takeElement]) ?_
  refine z_aload_n 0 dX7_takeElement_0 rfl rfl ?_
  refine z_getI dX7_takeElement_1 zc7 (by decide) wf_X7_79 hf fun x1 hf => ?_
  refine z_iconst (1 : Int32) dX7_takeElement_4 (by decide) ?_
  refine z_icmp_eq 19 dX7_takeElement_5 (by decide) hf (fun hf => ?_) (fun hf => ?_)
  · refine z_aload_n 0 dX7_takeElement_19 rfl rfl ?_
    refine z_aload_n 0 dX7_takeElement_20 rfl rfl ?_
    refine z_getA dX7_takeElement_21 zc7 (by decide) wf_X7_9 hf fun x2 hf => ?_
    refine z_aload_n 0 dX7_takeElement_24 rfl rfl ?_
    refine z_getI dX7_takeElement_25 zc7 (by decide) wf_X7_88 hf fun x3 hf => ?_
    refine z_aload_n 0 dX7_takeElement_28 rfl rfl ?_
    refine z_getA dX7_takeElement_29 zc7 (by decide) wf_X7_33 hf fun x4 hf => ?_
    refine z_getI dX7_takeElement_32 zc0 (by decide) wf_X7_119 hf fun x5 hf => ?_
    refine z_cV_i (d' := d - 1) (As := [.int x3, .int x5]) (rest := [.ref a]) dX7_takeElement_35 lk_X7_122 rfl hf (fun w1 e1 => zc_X2_fromNumber (by omega) e1) (by omega) rfl rfl (Nat.le_of_ble_eq_true rfl) fun y6 hf => ?_
    refine z_putB dX7_takeElement_38 zc7 (by decide) wf_X7_116 (Or.inl rfl) rfl rfl hf fun h7 hf => ?_
    refine z_aload_n 0 dX7_takeElement_41 rfl rfl ?_
    refine z_getI dX7_takeElement_42 zc7 (by decide) wf_X7_116 hf fun x8 hf => ?_
    refine z_iconst (-1 : Int32) dX7_takeElement_45 (by decide) ?_
    refine z_icmp_ne 60 dX7_takeElement_46 (by decide) hf (fun hf => ?_) (fun hf => ?_)
    · refine z_aload_n 0 dX7_takeElement_49 rfl rfl ?_
      refine z_bipush (-3 : Int32) dX7_takeElement_50 (by decide) ?_
      refine z_aload_n 0 dX7_takeElement_52 rfl rfl ?_
      refine z_getI dX7_takeElement_53 zc7 (by decide) wf_X7_85 hf fun x10 hf => ?_
      refine z_cV_i (d' := d - 1) (As := [.int (-3 : Int32), .int x10]) (rest := []) dX7_takeElement_56 lk_X7_112 rfl hf (fun w1 e1 => zc_X7_fail (by omega) e1) (by omega) rfl rfl (Nat.le_of_ble_eq_true rfl) fun y11 hf => ?_
      obtain ⟨x12, hz, hf⟩ := Option.bind_eq_some_iff.mp hf
      obtain ⟨hb, rfl⟩ := zB_of hz
      exact z_zret dX7_takeElement_59 rfl hb (by cases hf; rfl)
    · refine z_aload_n 0 dX7_takeElement_60 rfl rfl ?_
      refine z_cV_v (d' := d - 1) (As := []) (rest := []) dX7_takeElement_61 lk_X7_72 rfl hf (fun w1 e1 => zc_X7_advance (by omega) e1) (by omega) rfl rfl (Nat.le_of_ble_eq_true rfl) fun y9 hf => ?_
      refine z_iconst (1 : Int32) dX7_takeElement_64 (by decide) ?_
      exact z_zret dX7_takeElement_65 rfl (Or.inr rfl) (by cases hf; rfl)
  · refine z_aload_n 0 dX7_takeElement_8 rfl rfl ?_
    refine z_bipush (-2 : Int32) dX7_takeElement_9 (by decide) ?_
    refine z_aload_n 0 dX7_takeElement_11 rfl rfl ?_
    refine z_getI dX7_takeElement_12 zc7 (by decide) wf_X7_85 hf fun x13 hf => ?_
    refine z_cV_i (d' := d - 1) (As := [.int (-2 : Int32), .int x13]) (rest := []) dX7_takeElement_15 lk_X7_112 rfl hf (fun w1 e1 => zc_X7_fail (by omega) e1) (by omega) rfl rfl (Nat.le_of_ble_eq_true rfl) fun y14 hf => ?_
    obtain ⟨x15, hz, hf⟩ := Option.bind_eq_some_iff.mp hf
    obtain ⟨hb, rfl⟩ := zB_of hz
    exact z_zret dX7_takeElement_18 rfl hb (by cases hf; rfl)
set_option maxRecDepth 4000 in
theorem zc_X7_takeCard {Γ : zG} {N d : Nat} (hd : 13 ≤ d) {a : Nat} {h : zH} {w : Int32 × zH} (hf : f_X7_takeCard N a h = some w) : Zm Γ m_X7_takeCard d [.ref a] h (zoI w) := by
  unfold f_X7_takeCard at hf
  refine z_meth rfl (plainFor_of_name wpl_X7) (by simp [lg_sl, Value.category, zml, m_X7_takeCard]) ?_
  refine z_aload_n 0 dX7_takeCard_0 rfl rfl ?_
  refine z_cV_v (d' := d - 1) (As := []) (rest := []) dX7_takeCard_1 lk_X7_72 rfl hf (fun w1 e1 => zc_X7_advance (by omega) e1) (by omega) rfl rfl (Nat.le_of_ble_eq_true rfl) fun y1 hf => ?_
  refine z_aload_n 0 dX7_takeCard_4 rfl rfl ?_
  refine z_getI dX7_takeCard_5 zc7 (by decide) wf_X7_85 hf fun x2 hf => ?_
  refine z_istore_n [(1, .int x2), (0, .ref a)] dX7_takeCard_8 rfl (by decide) rfl ?_
  refine z_aload_n 1 dX7_takeCard_9 rfl rfl ?_
  refine z_iconst (0 : Int32) dX7_takeCard_10 (by decide) ?_
  refine z_aload_n 1 dX7_takeCard_11 rfl rfl ?_
  refine z_getA dX7_takeCard_12 zc7 (by decide) wf_X7_33 hf fun x3 hf => ?_
  refine z_getI dX7_takeCard_15 zc0 (by decide) wf_X7_158 hf fun x4 hf => ?_
  refine z_iconst (1 : Int32) dX7_takeCard_18 (by decide) ?_
  refine z_isub dX7_takeCard_19 ?_
  refine z_cV_i (d' := d - 1) (As := [.int (0 : Int32), .int (x4 - (1 : Int32))]) (rest := []) dX7_takeCard_20 lk_X7_132 rfl hf (fun w1 e1 => zc_X7_takeNumber (by omega) e1) (by omega) rfl rfl (Nat.le_of_ble_eq_true rfl) fun y5 hf => ?_
  refine z_if_ne 28 dX7_takeCard_23 (by decide) hf (fun hf => ?_) (fun hf => ?_)
  · refine z_iconst (0 : Int32) dX7_takeCard_26 (by decide) ?_
    exact z_zret dX7_takeCard_27 rfl (Or.inl rfl) (by cases hf; rfl)
  · refine z_aload_n 1 dX7_takeCard_28 rfl rfl ?_
    refine z_getA dX7_takeCard_29 zc7 (by decide) wf_X7_33 hf fun x6 hf => ?_
    refine z_aload_n 1 dX7_takeCard_32 rfl rfl ?_
    refine z_getI dX7_takeCard_33 zc7 (by decide) wf_X7_116 hf fun x7 hf => ?_
    refine z_cV_n (d' := d - 1) (As := [.int x7]) (rest := []) dX7_takeCard_36 lk_X7_165 rfl hf (fun w1 e1 => zc_X0_bidder (by omega) e1) (by omega) rfl rfl (Nat.le_of_ble_eq_true rfl) (fun y8 hf => ?_) (fun y8 x9 hf => ?_)
    · refine z_astore_nN [(2, .null), (1, .int x2), (0, .ref a)] dX7_takeCard_39 rfl (by decide) rfl ?_
      refine z_aload_nN 0 dX7_takeCard_40 rfl rfl ?_
      refine z_ifnonnullN dX7_takeCard_41 ?_
      refine z_aload_n 2 dX7_takeCard_44 rfl rfl ?_
      refine z_bipush (-3 : Int32) dX7_takeCard_45 (by decide) ?_
      refine z_iload_n 1 dX7_takeCard_47 rfl rfl ?_
      refine z_cV_i (d' := d - 1) (As := [.int (-3 : Int32), .int x2]) (rest := []) dX7_takeCard_48 lk_X7_112 rfl hf (fun w1 e1 => zc_X7_fail (by omega) e1) (by omega) rfl rfl (Nat.le_of_ble_eq_true rfl) fun y10 hf => ?_
      obtain ⟨x11, hz, hf⟩ := Option.bind_eq_some_iff.mp hf
      obtain ⟨hb, rfl⟩ := zB_of hz
      exact z_zret dX7_takeCard_51 rfl hb (by cases hf; rfl)
    · refine z_astore_n [(2, .ref x9), (1, .int x2), (0, .ref a)] dX7_takeCard_39 rfl (by decide) rfl ?_
      refine z_aload_n 0 dX7_takeCard_40 rfl rfl ?_
      refine z_ifnonnull 52 dX7_takeCard_41 (by decide) ?_
      refine z_aload_n 0 dX7_takeCard_52 rfl rfl ?_
      refine z_getA dX7_takeCard_53 zc1 (by decide) wf_X7_169 hf fun x12 hf => ?_
      refine z_cV_i (d' := d - 1) (As := []) (rest := []) dX7_takeCard_56 lk_X7_174 rfl hf (fun w1 e1 => zc_X6_isFull (by omega) e1) (by omega) rfl rfl (Nat.le_of_ble_eq_true rfl) fun y13 hf => ?_
      refine z_if_eq 70 dX7_takeCard_59 (by decide) hf (fun hf => ?_) (fun hf => ?_)
      · refine z_aload_n 2 dX7_takeCard_70 rfl rfl ?_
        refine z_cV_i (d' := d - 1) (As := []) (rest := []) dX7_takeCard_71 lk_X7_177 rfl hf (fun w1 e1 => zc_X7_takeElement (by omega) e1) (by omega) rfl rfl (Nat.le_of_ble_eq_true rfl) fun y14 hf => ?_
        refine z_if_ne 79 dX7_takeCard_74 (by decide) hf (fun hf => ?_) (fun hf => ?_)
        · refine z_iconst (0 : Int32) dX7_takeCard_77 (by decide) ?_
          exact z_zret dX7_takeCard_78 rfl (Or.inl rfl) (by cases hf; rfl)
        · refine z_aload_n 2 dX7_takeCard_79 rfl rfl ?_
          refine z_getI dX7_takeCard_80 zc7 (by decide) wf_X7_116 hf fun x15 hf => ?_
          refine z_istore_n [(3, .int x15), (2, .ref x9), (1, .int x2), (0, .ref a)] dX7_takeCard_83 rfl (by decide) rfl ?_
          refine z_aload_n 3 dX7_takeCard_84 rfl rfl ?_
          refine z_iconst (1 : Int32) dX7_takeCard_85 (by decide) ?_
          refine z_sipush (999 : Int32) dX7_takeCard_86 (by decide) ?_
          refine z_cV_i (d' := d - 1) (As := [.int (1 : Int32), .int (999 : Int32)]) (rest := []) dX7_takeCard_89 lk_X7_132 rfl hf (fun w1 e1 => zc_X7_takeNumber (by omega) e1) (by omega) rfl rfl (Nat.le_of_ble_eq_true rfl) fun y16 hf => ?_
          refine z_if_ne 97 dX7_takeCard_92 (by decide) hf (fun hf => ?_) (fun hf => ?_)
          · refine z_iconst (0 : Int32) dX7_takeCard_95 (by decide) ?_
            exact z_zret dX7_takeCard_96 rfl (Or.inl rfl) (by cases hf; rfl)
          · refine z_aload_n 1 dX7_takeCard_97 rfl rfl ?_
            refine z_iload_n 0 dX7_takeCard_98 rfl rfl ?_
            refine z_aload_n 3 dX7_takeCard_99 rfl rfl ?_
            refine z_getI dX7_takeCard_100 zc7 (by decide) wf_X7_116 hf fun x17 hf => ?_
            refine z_cV_v (d' := d - 1) (As := [.int x15, .int x17]) (rest := []) dX7_takeCard_103 lk_X7_180 rfl hf (fun w1 e1 => zc_X1_takeCard (by omega) e1) (by omega) rfl rfl (Nat.le_of_ble_eq_true rfl) fun y18 hf => ?_
            refine z_iconst (1 : Int32) dX7_takeCard_106 (by decide) ?_
            exact z_zret dX7_takeCard_107 rfl (Or.inr rfl) (by cases hf; rfl)
      · refine z_aload_n 2 dX7_takeCard_62 rfl rfl ?_
        refine z_bipush (-4 : Int32) dX7_takeCard_63 (by decide) ?_
        refine z_iload_n 1 dX7_takeCard_65 rfl rfl ?_
        refine z_cV_i (d' := d - 1) (As := [.int (-4 : Int32), .int x2]) (rest := []) dX7_takeCard_66 lk_X7_112 rfl hf (fun w1 e1 => zc_X7_fail (by omega) e1) (by omega) rfl rfl (Nat.le_of_ble_eq_true rfl) fun y19 hf => ?_
        obtain ⟨x20, hz, hf⟩ := Option.bind_eq_some_iff.mp hf
        obtain ⟨hb, rfl⟩ := zB_of hz
        exact z_zret dX7_takeCard_69 rfl hb (by cases hf; rfl)
set_option maxRecDepth 4000 in
theorem zc_X7_takeLot {Γ : zG} {N d : Nat} (hd : 13 ≤ d) {a : Nat} {h : zH} {w : Int32 × zH} (hf : f_X7_takeLot N a h = some w) : Zm Γ m_X7_takeLot d [.ref a] h (zoI w) := by
  unfold f_X7_takeLot at hf
  refine z_meth rfl (plainFor_of_name wpl_X7) (by simp [lg_sl, Value.category, zml, m_X7_takeLot]) ?_
  refine z_aload_n 0 dX7_takeLot_0 rfl rfl ?_
  refine z_getA dX7_takeLot_1 zc7 (by decide) wf_X7_33 hf fun x1 hf => ?_
  refine z_getA dX7_takeLot_4 zc0 (by decide) wf_X7_183 hf fun x2 hf => ?_
  refine z_cV_i (d' := d - 1) (As := []) (rest := []) dX7_takeLot_7 lk_X7_174 rfl hf (fun w1 e1 => zc_X6_isFull (by omega) e1) (by omega) rfl rfl (Nat.le_of_ble_eq_true rfl) fun y3 hf => ?_
  refine z_if_eq 24 dX7_takeLot_10 (by decide) hf (fun hf => ?_) (fun hf => ?_)
  · refine z_aload_n 0 dX7_takeLot_24 rfl rfl ?_
    refine z_cV_v (d' := d - 1) (As := []) (rest := []) dX7_takeLot_25 lk_X7_72 rfl hf (fun w1 e1 => zc_X7_advance (by omega) e1) (by omega) rfl rfl (Nat.le_of_ble_eq_true rfl) fun y4 hf => ?_
    refine z_aload_n 0 dX7_takeLot_28 rfl rfl ?_
    refine z_iconst (1 : Int32) dX7_takeLot_29 (by decide) ?_
    refine z_sipush (9999 : Int32) dX7_takeLot_30 (by decide) ?_
    refine z_cV_i (d' := d - 1) (As := [.int (1 : Int32), .int (9999 : Int32)]) (rest := []) dX7_takeLot_33 lk_X7_132 rfl hf (fun w1 e1 => zc_X7_takeNumber (by omega) e1) (by omega) rfl rfl (Nat.le_of_ble_eq_true rfl) fun y5 hf => ?_
    refine z_if_ne 41 dX7_takeLot_36 (by decide) hf (fun hf => ?_) (fun hf => ?_)
    · refine z_iconst (0 : Int32) dX7_takeLot_39 (by decide) ?_
      exact z_zret dX7_takeLot_40 rfl (Or.inl rfl) (by cases hf; rfl)
    · refine z_aload_n 0 dX7_takeLot_41 rfl rfl ?_
      refine z_getA dX7_takeLot_42 zc7 (by decide) wf_X7_33 hf fun x6 hf => ?_
      refine z_getA dX7_takeLot_45 zc0 (by decide) wf_X7_183 hf fun x7 hf => ?_
      refine z_aload_n 0 dX7_takeLot_48 rfl rfl ?_
      refine z_getI dX7_takeLot_49 zc7 (by decide) wf_X7_116 hf fun x8 hf => ?_
      refine z_cV_v (d' := d - 1) (As := [.int x8]) (rest := []) dX7_takeLot_52 lk_X7_186 rfl hf (fun w1 e1 => zc_X6_push (by omega) e1) (by omega) rfl rfl (Nat.le_of_ble_eq_true rfl) fun y9 hf => ?_
      refine z_iconst (1 : Int32) dX7_takeLot_55 (by decide) ?_
      exact z_zret dX7_takeLot_56 rfl (Or.inr rfl) (by cases hf; rfl)
  · refine z_aload_n 0 dX7_takeLot_13 rfl rfl ?_
    refine z_bipush (-4 : Int32) dX7_takeLot_14 (by decide) ?_
    refine z_aload_n 0 dX7_takeLot_16 rfl rfl ?_
    refine z_getI dX7_takeLot_17 zc7 (by decide) wf_X7_85 hf fun x10 hf => ?_
    refine z_cV_i (d' := d - 1) (As := [.int (-4 : Int32), .int x10]) (rest := []) dX7_takeLot_20 lk_X7_112 rfl hf (fun w1 e1 => zc_X7_fail (by omega) e1) (by omega) rfl rfl (Nat.le_of_ble_eq_true rfl) fun y11 hf => ?_
    obtain ⟨x12, hz, hf⟩ := Option.bind_eq_some_iff.mp hf
    obtain ⟨hb, rfl⟩ := zB_of hz
    exact z_zret dX7_takeLot_23 rfl hb (by cases hf; rfl)
set_option maxRecDepth 4000 in
theorem zj_X7_takeVariable_56 {Γ : zG} {N d : Nat} {h0 : zH} (hd : 26 ≤ d) {v0 : Nat} {s0 : Int32} {h : zH} {w : Int32 × zH} (hf : f_X7_takeVariable_j56 N v0 s0 h = some w) : Z Γ m_X7_takeVariable d h0 (zoI w) 56 [(0, .ref v0)] [.int s0] h := by
  unfold f_X7_takeVariable_j56 at hf
  refine z_istore_n [(1, .int s0), (0, .ref v0)] dX7_takeVariable_56 rfl (by decide) rfl ?_
  refine z_iload_n 0 dX7_takeVariable_57 rfl rfl ?_
  refine z_if_ne 72 dX7_takeVariable_58 (by decide) hf (fun hf => ?_) (fun hf => ?_)
  · refine z_aload_n 1 dX7_takeVariable_61 rfl rfl ?_
    refine z_bipush (-2 : Int32) dX7_takeVariable_62 (by decide) ?_
    refine z_aload_n 1 dX7_takeVariable_64 rfl rfl ?_
    refine z_getI dX7_takeVariable_65 zc7 (by decide) wf_X7_85 hf fun x8 hf => ?_
    refine z_cV_i (d' := d - 1) (As := [.int (-2 : Int32), .int x8]) (rest := []) dX7_takeVariable_68 lk_X7_112 rfl hf (fun w1 e1 => zc_X7_fail (by omega) e1) (by omega) rfl rfl (Nat.le_of_ble_eq_true rfl) fun y9 hf => ?_
    obtain ⟨x10, hz, hf⟩ := Option.bind_eq_some_iff.mp hf
    obtain ⟨hb, rfl⟩ := zB_of hz
    exact z_zret dX7_takeVariable_71 rfl hb (by cases hf; rfl)
  · refine z_aload_n 1 dX7_takeVariable_72 rfl rfl ?_
    refine z_getA dX7_takeVariable_73 zc7 (by decide) wf_X7_24 hf fun x5 hf => ?_
    refine z_iload_n 0 dX7_takeVariable_76 rfl rfl ?_
    refine z_cV_v (d' := d - 1) (As := [.int s0]) (rest := []) dX7_takeVariable_77 lk_X7_186 rfl hf (fun w1 e1 => zc_X6_push (by omega) e1) (by omega) rfl rfl (Nat.le_of_ble_eq_true rfl) fun y6 hf => ?_
    refine z_aload_n 1 dX7_takeVariable_80 rfl rfl ?_
    refine z_cV_v (d' := d - 1) (As := []) (rest := []) dX7_takeVariable_81 lk_X7_72 rfl hf (fun w1 e1 => zc_X7_advance (by omega) e1) (by omega) rfl rfl (Nat.le_of_ble_eq_true rfl) fun y7 hf => ?_
    refine z_iconst (1 : Int32) dX7_takeVariable_84 (by decide) ?_
    exact z_zret dX7_takeVariable_85 rfl (Or.inr rfl) (by cases hf; rfl)
set_option maxRecDepth 4000 in
theorem zc_X7_takeVariable {Γ : zG} {N d : Nat} (hd : 26 ≤ d) {a : Nat} {h : zH} {w : Int32 × zH} (hf : f_X7_takeVariable N a h = some w) : Zm Γ m_X7_takeVariable d [.ref a] h (zoI w) := by
  unfold f_X7_takeVariable at hf
  refine z_meth rfl (plainFor_of_name wpl_X7) (by simp [lg_sl, Value.category, zml, m_X7_takeVariable]) ?_
  refine z_aload_n 0 dX7_takeVariable_0 rfl rfl ?_
  refine z_ldcS7 (i := 5) (by decide) rfl rfl dX7_takeVariable_1 ?_
  refine z_cV_i (d' := d - 1) (As := [.ref (zKa Γ 5)]) (rest := []) dX7_takeVariable_3 lk_X7_128 rfl hf (fun w1 e1 => zc_X7_isWord (by omega) e1) (by omega) rfl rfl (Nat.le_of_ble_eq_true rfl) fun y1 hf => ?_
  refine z_if_eq 13 dX7_takeVariable_6 (by decide) hf (fun hf => ?_) (fun hf => ?_)
  · refine z_aload_n 0 dX7_takeVariable_13 rfl rfl ?_
    refine z_ldcS7 (i := 6) (by decide) rfl rfl dX7_takeVariable_14 ?_
    refine z_cV_i (d' := d - 1) (As := [.ref (zKa Γ 6)]) (rest := []) dX7_takeVariable_16 lk_X7_128 rfl hf (fun w1 e1 => zc_X7_isWord (by omega) e1) (by omega) rfl rfl (Nat.le_of_ble_eq_true rfl) fun y2 hf => ?_
    refine z_if_eq 27 dX7_takeVariable_19 (by decide) hf (fun hf => ?_) (fun hf => ?_)
    · refine z_aload_n 0 dX7_takeVariable_27 rfl rfl ?_
      refine z_ldcS7 (i := 7) (by decide) rfl rfl dX7_takeVariable_28 ?_
      refine z_cV_i (d' := d - 1) (As := [.ref (zKa Γ 7)]) (rest := []) dX7_takeVariable_30 lk_X7_128 rfl hf (fun w1 e1 => zc_X7_isWord (by omega) e1) (by omega) rfl rfl (Nat.le_of_ble_eq_true rfl) fun y3 hf => ?_
      refine z_if_eq 41 dX7_takeVariable_33 (by decide) hf (fun hf => ?_) (fun hf => ?_)
      · refine z_aload_n 0 dX7_takeVariable_41 rfl rfl ?_
        refine z_ldcS7 (i := 8) (by decide) rfl rfl dX7_takeVariable_42 ?_
        refine z_cV_i (d' := d - 1) (As := [.ref (zKa Γ 8)]) (rest := []) dX7_takeVariable_44 lk_X7_128 rfl hf (fun w1 e1 => zc_X7_isWord (by omega) e1) (by omega) rfl rfl (Nat.le_of_ble_eq_true rfl) fun y4 hf => ?_
        refine z_if_eq 55 dX7_takeVariable_47 (by decide) hf (fun hf => ?_) (fun hf => ?_)
        · refine z_iconst (0 : Int32) dX7_takeVariable_55 (by decide) ?_
          exact Z.sub [0] rfl (zj_X7_takeVariable_56 hd hf)
        · refine z_bipush (-4 : Int32) dX7_takeVariable_50 (by decide) ?_
          refine z_goto 56 dX7_takeVariable_52 (by decide) ?_
          exact Z.sub [0] rfl (zj_X7_takeVariable_56 hd hf)
      · refine z_bipush (-3 : Int32) dX7_takeVariable_36 (by decide) ?_
        refine z_goto 56 dX7_takeVariable_38 (by decide) ?_
        exact Z.sub [0] rfl (zj_X7_takeVariable_56 hd hf)
    · refine z_bipush (-2 : Int32) dX7_takeVariable_22 (by decide) ?_
      refine z_goto 56 dX7_takeVariable_24 (by decide) ?_
      exact Z.sub [0] rfl (zj_X7_takeVariable_56 hd hf)
  · refine z_iconst (-1 : Int32) dX7_takeVariable_9 (by decide) ?_
    refine z_goto 56 dX7_takeVariable_10 (by decide) ?_
    exact Z.sub [0] rfl (zj_X7_takeVariable_56 hd hf)
set_option maxRecDepth 4000 in
theorem zc_X7_takeFactor {Γ : zG} {N d : Nat} {rs : Nat → Int32 → zH → Option (Int32 × zH)} {dr : Nat} (hrs : ∀ (a : Nat) (p1 : Int32) (h : zH) (w : Int32 × zH), rs a p1 h = some w → Zm Γ m_X7_takeSum dr [.ref a, .int p1] h (zoI w)) (hd : 27 ≤ d ∧ dr + 1 ≤ d) {a : Nat} {p1 : Int32} {h : zH} {w : Int32 × zH} (hf : f_X7_takeFactor N rs a p1 h = some w) : Zm Γ m_X7_takeFactor d [.ref a, .int p1] h (zoI w) := by
  unfold f_X7_takeFactor at hf
  refine z_meth rfl (plainFor_of_name wpl_X7) (by simp [lg_sl, Value.category, zml, m_X7_takeFactor]) ?_
  refine z_aload_n 0 dX7_takeFactor_0 rfl rfl ?_
  refine z_bipush (40 : Int32) dX7_takeFactor_1 (by decide) ?_
  refine z_cV_i (d' := d - 1) (As := [.int (40 : Int32)]) (rest := []) dX7_takeFactor_3 lk_X7_108 rfl hf (fun w1 e1 => zc_X7_isSign (by omega) e1) (by omega) rfl rfl (Nat.le_of_ble_eq_true rfl) fun y1 hf => ?_
  refine z_if_eq 54 dX7_takeFactor_6 (by decide) hf (fun hf => ?_) (fun hf => ?_)
  · refine z_aload_n 0 dX7_takeFactor_54 rfl rfl ?_
    refine z_getI dX7_takeFactor_55 zc7 (by decide) wf_X7_79 hf fun x2 hf => ?_
    refine z_iconst (2 : Int32) dX7_takeFactor_58 (by decide) ?_
    refine z_icmp_ne 67 dX7_takeFactor_59 (by decide) hf (fun hf => ?_) (fun hf => ?_)
    · refine z_aload_n 0 dX7_takeFactor_62 rfl rfl ?_
      refine z_cV_i (d' := d - 1) (As := []) (rest := []) dX7_takeFactor_63 lk_X7_211 rfl hf (fun w1 e1 => zc_X7_takeVariable (by omega) e1) (by omega) rfl rfl (Nat.le_of_ble_eq_true rfl) fun y7 hf => ?_
      obtain ⟨x8, hz, hf⟩ := Option.bind_eq_some_iff.mp hf
      obtain ⟨hb, rfl⟩ := zB_of hz
      exact z_zret dX7_takeFactor_66 rfl hb (by cases hf; rfl)
    · refine z_aload_n 0 dX7_takeFactor_67 rfl rfl ?_
      refine z_iconst (0 : Int32) dX7_takeFactor_68 (by decide) ?_
      refine z_sipush (9999 : Int32) dX7_takeFactor_69 (by decide) ?_
      refine z_cV_i (d' := d - 1) (As := [.int (0 : Int32), .int (9999 : Int32)]) (rest := []) dX7_takeFactor_72 lk_X7_132 rfl hf (fun w1 e1 => zc_X7_takeNumber (by omega) e1) (by omega) rfl rfl (Nat.le_of_ble_eq_true rfl) fun y3 hf => ?_
      refine z_if_ne 80 dX7_takeFactor_75 (by decide) hf (fun hf => ?_) (fun hf => ?_)
      · refine z_iconst (0 : Int32) dX7_takeFactor_78 (by decide) ?_
        exact z_zret dX7_takeFactor_79 rfl (Or.inl rfl) (by cases hf; rfl)
      · refine z_aload_n 0 dX7_takeFactor_80 rfl rfl ?_
        refine z_getA dX7_takeFactor_81 zc7 (by decide) wf_X7_24 hf fun x4 hf => ?_
        refine z_aload_n 0 dX7_takeFactor_84 rfl rfl ?_
        refine z_getI dX7_takeFactor_85 zc7 (by decide) wf_X7_116 hf fun x5 hf => ?_
        refine z_cV_v (d' := d - 1) (As := [.int x5]) (rest := []) dX7_takeFactor_88 lk_X7_186 rfl hf (fun w1 e1 => zc_X6_push (by omega) e1) (by omega) rfl rfl (Nat.le_of_ble_eq_true rfl) fun y6 hf => ?_
        refine z_iconst (1 : Int32) dX7_takeFactor_91 (by decide) ?_
        exact z_zret dX7_takeFactor_92 rfl (Or.inr rfl) (by cases hf; rfl)
  · refine z_iload_n 1 dX7_takeFactor_9 rfl rfl ?_
    refine z_iconst (4 : Int32) dX7_takeFactor_10 (by decide) ?_
    refine z_icmp_lt 25 dX7_takeFactor_11 (by decide) hf (fun hf => ?_) (fun hf => ?_)
    · refine z_aload_n 0 dX7_takeFactor_25 rfl rfl ?_
      refine z_cV_v (d' := d - 1) (As := []) (rest := []) dX7_takeFactor_26 lk_X7_72 rfl hf (fun w1 e1 => zc_X7_advance (by omega) e1) (by omega) rfl rfl (Nat.le_of_ble_eq_true rfl) fun y9 hf => ?_
      refine z_aload_n 0 dX7_takeFactor_29 rfl rfl ?_
      refine z_iload_n 1 dX7_takeFactor_30 rfl rfl ?_
      refine z_iconst (1 : Int32) dX7_takeFactor_31 (by decide) ?_
      refine z_iadd dX7_takeFactor_32 ?_
      refine z_cV_i (d' := dr) (As := [.int (p1 + (1 : Int32))]) (rest := []) dX7_takeFactor_33 lk_X7_189 rfl hf (fun w1 e1 => hrs _ _ _ _ e1) (by omega) rfl rfl (Nat.le_of_ble_eq_true rfl) fun y10 hf => ?_
      refine z_if_eq 52 dX7_takeFactor_36 (by decide) hf (fun hf => ?_) (fun hf => ?_)
      · refine z_iconst (0 : Int32) dX7_takeFactor_52 (by decide) ?_
        exact z_zret dX7_takeFactor_53 rfl (Or.inl rfl) (by cases hf; rfl)
      · refine z_aload_n 0 dX7_takeFactor_39 rfl rfl ?_
        refine z_bipush (41 : Int32) dX7_takeFactor_40 (by decide) ?_
        refine z_cV_i (d' := d - 1) (As := [.int (41 : Int32)]) (rest := []) dX7_takeFactor_42 lk_X7_135 rfl hf (fun w1 e1 => zc_X7_takeSign (by omega) e1) (by omega) rfl rfl (Nat.le_of_ble_eq_true rfl) fun y11 hf => ?_
        refine z_if_eq 52 dX7_takeFactor_45 (by decide) hf (fun hf => ?_) (fun hf => ?_)
        · refine z_iconst (0 : Int32) dX7_takeFactor_52 (by decide) ?_
          exact z_zret dX7_takeFactor_53 rfl (Or.inl rfl) (by cases hf; rfl)
        · refine z_iconst (1 : Int32) dX7_takeFactor_48 (by decide) ?_
          refine z_goto 53 dX7_takeFactor_49 (by decide) ?_
          exact z_zret dX7_takeFactor_53 rfl (Or.inr rfl) (by cases hf; rfl)
    · refine z_aload_n 0 dX7_takeFactor_14 rfl rfl ?_
      refine z_bipush (-5 : Int32) dX7_takeFactor_15 (by decide) ?_
      refine z_aload_n 0 dX7_takeFactor_17 rfl rfl ?_
      refine z_getI dX7_takeFactor_18 zc7 (by decide) wf_X7_85 hf fun x12 hf => ?_
      refine z_cV_i (d' := d - 1) (As := [.int (-5 : Int32), .int x12]) (rest := []) dX7_takeFactor_21 lk_X7_112 rfl hf (fun w1 e1 => zc_X7_fail (by omega) e1) (by omega) rfl rfl (Nat.le_of_ble_eq_true rfl) fun y13 hf => ?_
      obtain ⟨x14, hz, hf⟩ := Option.bind_eq_some_iff.mp hf
      obtain ⟨hb, rfl⟩ := zB_of hz
      exact z_zret dX7_takeFactor_24 rfl hb (by cases hf; rfl)
set_option maxRecDepth 4000 in
theorem zl_X7_takeTerm_8 {Γ : zG} {N d : Nat} {h0 : zH} {rs : Nat → Int32 → zH → Option (Int32 × zH)} {dr : Nat} (hrs : ∀ (a : Nat) (p1 : Int32) (h : zH) (w : Int32 × zH), rs a p1 h = some w → Zm Γ m_X7_takeSum dr [.ref a, .int p1] h (zoI w)) (hd : 28 ≤ d ∧ dr + 2 ≤ d) {v0 : Nat} {v1 : Int32}  {w : Int32 × zH}   : ∀ (n : Nat) (v2 : Int32) (v3 : Int32) (h : zH), f_X7_takeTerm_l8 N rs v0 v1 n v2 v3 h = some w → Z Γ m_X7_takeTerm d h0 (zoI w) 8 [(0, .ref v0), (1, .int v1), (2, .int v2), (3, .int v3)] [] h := by
  intro n
  induction n with
  | zero => intro v2 v3 h hf; cases hf
  | succ n ih =>
    intro v2 v3 h hf
    rw [f_X7_takeTerm_l8] at hf
    refine z_iload_n 3 dX7_takeTerm_8 rfl rfl ?_
    refine z_sipush (700 : Int32) dX7_takeTerm_9 (by decide) ?_
    refine z_icmp_ge 80 dX7_takeTerm_12 (by decide) hf (fun hf => ?_) (fun hf => ?_)
    · refine z_iload_n 2 dX7_takeTerm_80 rfl rfl ?_
      obtain ⟨x2, hz, hf⟩ := Option.bind_eq_some_iff.mp hf
      obtain ⟨hb, rfl⟩ := zB_of hz
      exact z_zret dX7_takeTerm_81 rfl hb (by cases hf; rfl)
    · refine z_iload_n 2 dX7_takeTerm_15 rfl rfl ?_
      refine z_if_eq 80 dX7_takeTerm_16 (by decide) hf (fun hf => ?_) (fun hf => ?_)
      · refine z_iload_n 2 dX7_takeTerm_80 rfl rfl ?_
        obtain ⟨x3, hz, hf⟩ := Option.bind_eq_some_iff.mp hf
        obtain ⟨hb, rfl⟩ := zB_of hz
        exact z_zret dX7_takeTerm_81 rfl hb (by cases hf; rfl)
      · refine z_aload_n 0 dX7_takeTerm_19 rfl rfl ?_
        refine z_bipush (42 : Int32) dX7_takeTerm_20 (by decide) ?_
        refine z_cV_i (d' := d - 1) (As := [.int (42 : Int32)]) (rest := []) dX7_takeTerm_22 lk_X7_108 rfl hf (fun w1 e1 => zc_X7_isSign (by omega) e1) (by omega) rfl rfl (Nat.le_of_ble_eq_true rfl) fun y4 hf => ?_
        refine zjn_elim (P := fun (j37 : Int32 → zH → Option (Int32 × zH)) => ∀ (v3 : Int32) (h : zH), j37 v3 h = some w → Z Γ m_X7_takeTerm d h0 (zoI w) 37 [(0, .ref v0), (1, .int v1), (3, .int v3)] [] h) hf (fun v3 h hf => ?_) (fun j37 hj37 hf => ?_)
        · refine z_aload_n 0 dX7_takeTerm_37 rfl rfl ?_
          refine z_bipush (42 : Int32) dX7_takeTerm_38 (by decide) ?_
          refine z_cV_i (d' := d - 1) (As := [.int (42 : Int32)]) (rest := []) dX7_takeTerm_40 lk_X7_108 rfl hf (fun w1 e1 => zc_X7_isSign (by omega) e1) (by omega) rfl rfl (Nat.le_of_ble_eq_true rfl) fun y7 hf => ?_
          refine zjn_elim (P := fun (j53 : Int32 → Int32 → zH → Option (Int32 × zH)) => ∀ (v3 : Int32) (s0 : Int32) (h : zH), j53 v3 s0 h = some w → Z Γ m_X7_takeTerm d h0 (zoI w) 53 [(0, .ref v0), (1, .int v1), (3, .int v3)] [.int s0] h) hf (fun v3 s0 h hf => ?_) (fun j53 hj53 hf => ?_)
          · refine z_istore [(4, .int s0), (0, .ref v0), (1, .int v1), (3, .int v3)] dX7_takeTerm_53 (by decide) rfl ?_
            refine z_aload_n 1 dX7_takeTerm_55 rfl rfl ?_
            refine z_cV_v (d' := d - 1) (As := []) (rest := []) dX7_takeTerm_56 lk_X7_72 rfl hf (fun w1 e1 => zc_X7_advance (by omega) e1) (by omega) rfl rfl (Nat.le_of_ble_eq_true rfl) fun y8 hf => ?_
            refine z_aload_n 1 dX7_takeTerm_59 rfl rfl ?_
            refine z_iload_n 2 dX7_takeTerm_60 rfl rfl ?_
            refine z_cV_i (d' := d - 1) (As := [.int v1]) (rest := []) dX7_takeTerm_61 lk_X7_208 rfl hf (fun w1 e1 => zc_X7_takeFactor hrs ⟨by omega, by omega⟩ e1) (by omega) rfl rfl (Nat.le_of_ble_eq_true rfl) fun y9 hf => ?_
            refine z_istore_n [(2, .int y9.1), (4, .int s0), (0, .ref v0), (1, .int v1), (3, .int v3)] dX7_takeTerm_64 rfl (by decide) rfl ?_
            refine z_aload_n 2 dX7_takeTerm_65 rfl rfl ?_
            refine z_getA dX7_takeTerm_66 zc7 (by decide) wf_X7_24 hf fun x10 hf => ?_
            refine z_iload 1 dX7_takeTerm_69 rfl ?_
            refine z_cV_v (d' := d - 1) (As := [.int s0]) (rest := []) dX7_takeTerm_71 lk_X7_186 rfl hf (fun w1 e1 => zc_X6_push (by omega) e1) (by omega) rfl rfl (Nat.le_of_ble_eq_true rfl) fun y11 hf => ?_
            refine z_iinc (v3 + (1 : Int32)) 4 [(3, .int (v3 + (1 : Int32))), (2, .int y9.1), (4, .int s0), (0, .ref v0), (1, .int v1)] dX7_takeTerm_74 rfl rfl (by decide) rfl ?_
            refine z_goto 8 dX7_takeTerm_77 (by decide) ?_
            exact Z.sub [3, 4, 1, 0] rfl (ih y9.1 (v3 + (1 : Int32)) y11 hf)
          · refine z_if_eq 51 dX7_takeTerm_43 (by decide) hf (fun hf => ?_) (fun hf => ?_)
            · refine z_bipush (-8 : Int32) dX7_takeTerm_51 (by decide) ?_
              exact Z.sub [0, 1, 2] rfl (hj53 v3 (-8 : Int32) y7.2 hf)
            · refine z_bipush (-7 : Int32) dX7_takeTerm_46 (by decide) ?_
              refine z_goto 53 dX7_takeTerm_48 (by decide) ?_
              exact Z.sub [0, 1, 2] rfl (hj53 v3 (-7 : Int32) y7.2 hf)
        · refine z_if_ne 37 dX7_takeTerm_25 (by decide) hf (fun hf => ?_) (fun hf => ?_)
          · refine z_aload_n 0 dX7_takeTerm_28 rfl rfl ?_
            refine z_bipush (47 : Int32) dX7_takeTerm_29 (by decide) ?_
            refine z_cV_i (d' := d - 1) (As := [.int (47 : Int32)]) (rest := []) dX7_takeTerm_31 lk_X7_108 rfl hf (fun w1 e1 => zc_X7_isSign (by omega) e1) (by omega) rfl rfl (Nat.le_of_ble_eq_true rfl) fun y5 hf => ?_
            refine z_if_eq 80 dX7_takeTerm_34 (by decide) hf (fun hf => ?_) (fun hf => ?_)
            · refine z_iload_n 2 dX7_takeTerm_80 rfl rfl ?_
              obtain ⟨x6, hz, hf⟩ := Option.bind_eq_some_iff.mp hf
              obtain ⟨hb, rfl⟩ := zB_of hz
              exact z_zret dX7_takeTerm_81 rfl hb (by cases hf; rfl)
            · exact Z.sub [0, 1, 3] rfl (hj37 v3 y5.2 hf)
          · exact Z.sub [0, 1, 3] rfl (hj37 v3 y4.2 hf)
set_option maxRecDepth 4000 in
theorem zc_X7_takeTerm {Γ : zG} {N d : Nat} {rs : Nat → Int32 → zH → Option (Int32 × zH)} {dr : Nat} (hrs : ∀ (a : Nat) (p1 : Int32) (h : zH) (w : Int32 × zH), rs a p1 h = some w → Zm Γ m_X7_takeSum dr [.ref a, .int p1] h (zoI w)) (hd : 28 ≤ d ∧ dr + 2 ≤ d) {a : Nat} {p1 : Int32} {h : zH} {w : Int32 × zH} (hf : f_X7_takeTerm N rs a p1 h = some w) : Zm Γ m_X7_takeTerm d [.ref a, .int p1] h (zoI w) := by
  unfold f_X7_takeTerm at hf
  refine z_meth rfl (plainFor_of_name wpl_X7) (by simp [lg_sl, Value.category, zml, m_X7_takeTerm]) ?_
  refine z_aload_n 0 dX7_takeTerm_0 rfl rfl ?_
  refine z_iload_n 1 dX7_takeTerm_1 rfl rfl ?_
  refine z_cV_i (d' := d - 1) (As := [.int p1]) (rest := []) dX7_takeTerm_2 lk_X7_208 rfl hf (fun w1 e1 => zc_X7_takeFactor hrs ⟨by omega, by omega⟩ e1) (by omega) rfl rfl (Nat.le_of_ble_eq_true rfl) fun y1 hf => ?_
  refine z_istore_n [(2, .int y1.1), (0, .ref a), (1, .int p1)] dX7_takeTerm_5 rfl (by decide) rfl ?_
  refine z_iconst (0 : Int32) dX7_takeTerm_6 (by decide) ?_
  refine z_istore_n [(3, .int (0 : Int32)), (2, .int y1.1), (0, .ref a), (1, .int p1)] dX7_takeTerm_7 rfl (by decide) rfl ?_
  refine Z.sub [2, 3, 1, 0] rfl (zl_X7_takeTerm_8 hrs hd  N y1.1 (0 : Int32) y1.2 hf)
set_option maxRecDepth 4000 in
theorem zl_X7_takeSum_8 {Γ : zG} {N d : Nat} {h0 : zH} {rs : Nat → Int32 → zH → Option (Int32 × zH)} {dr : Nat} (hrs : ∀ (a : Nat) (p1 : Int32) (h : zH) (w : Int32 × zH), rs a p1 h = some w → Zm Γ m_X7_takeSum dr [.ref a, .int p1] h (zoI w)) (hd : 29 ≤ d ∧ dr + 3 ≤ d) {v0 : Nat} {v1 : Int32}  {w : Int32 × zH}   : ∀ (n : Nat) (v2 : Int32) (v3 : Int32) (h : zH), f_X7_takeSum_l8 N rs v0 v1 n v2 v3 h = some w → Z Γ m_X7_takeSum d h0 (zoI w) 8 [(0, .ref v0), (1, .int v1), (2, .int v2), (3, .int v3)] [] h := by
  intro n
  induction n with
  | zero => intro v2 v3 h hf; cases hf
  | succ n ih =>
    intro v2 v3 h hf
    rw [f_X7_takeSum_l8] at hf
    refine z_iload_n 3 dX7_takeSum_8 rfl rfl ?_
    refine z_sipush (700 : Int32) dX7_takeSum_9 (by decide) ?_
    refine z_icmp_ge 80 dX7_takeSum_12 (by decide) hf (fun hf => ?_) (fun hf => ?_)
    · refine z_iload_n 2 dX7_takeSum_80 rfl rfl ?_
      obtain ⟨x2, hz, hf⟩ := Option.bind_eq_some_iff.mp hf
      obtain ⟨hb, rfl⟩ := zB_of hz
      exact z_zret dX7_takeSum_81 rfl hb (by cases hf; rfl)
    · refine z_iload_n 2 dX7_takeSum_15 rfl rfl ?_
      refine z_if_eq 80 dX7_takeSum_16 (by decide) hf (fun hf => ?_) (fun hf => ?_)
      · refine z_iload_n 2 dX7_takeSum_80 rfl rfl ?_
        obtain ⟨x3, hz, hf⟩ := Option.bind_eq_some_iff.mp hf
        obtain ⟨hb, rfl⟩ := zB_of hz
        exact z_zret dX7_takeSum_81 rfl hb (by cases hf; rfl)
      · refine z_aload_n 0 dX7_takeSum_19 rfl rfl ?_
        refine z_bipush (43 : Int32) dX7_takeSum_20 (by decide) ?_
        refine z_cV_i (d' := d - 1) (As := [.int (43 : Int32)]) (rest := []) dX7_takeSum_22 lk_X7_108 rfl hf (fun w1 e1 => zc_X7_isSign (by omega) e1) (by omega) rfl rfl (Nat.le_of_ble_eq_true rfl) fun y4 hf => ?_
        refine zjn_elim (P := fun (j37 : Int32 → zH → Option (Int32 × zH)) => ∀ (v3 : Int32) (h : zH), j37 v3 h = some w → Z Γ m_X7_takeSum d h0 (zoI w) 37 [(0, .ref v0), (1, .int v1), (3, .int v3)] [] h) hf (fun v3 h hf => ?_) (fun j37 hj37 hf => ?_)
        · refine z_aload_n 0 dX7_takeSum_37 rfl rfl ?_
          refine z_bipush (43 : Int32) dX7_takeSum_38 (by decide) ?_
          refine z_cV_i (d' := d - 1) (As := [.int (43 : Int32)]) (rest := []) dX7_takeSum_40 lk_X7_108 rfl hf (fun w1 e1 => zc_X7_isSign (by omega) e1) (by omega) rfl rfl (Nat.le_of_ble_eq_true rfl) fun y7 hf => ?_
          refine zjn_elim (P := fun (j53 : Int32 → Int32 → zH → Option (Int32 × zH)) => ∀ (v3 : Int32) (s0 : Int32) (h : zH), j53 v3 s0 h = some w → Z Γ m_X7_takeSum d h0 (zoI w) 53 [(0, .ref v0), (1, .int v1), (3, .int v3)] [.int s0] h) hf (fun v3 s0 h hf => ?_) (fun j53 hj53 hf => ?_)
          · refine z_istore [(4, .int s0), (0, .ref v0), (1, .int v1), (3, .int v3)] dX7_takeSum_53 (by decide) rfl ?_
            refine z_aload_n 1 dX7_takeSum_55 rfl rfl ?_
            refine z_cV_v (d' := d - 1) (As := []) (rest := []) dX7_takeSum_56 lk_X7_72 rfl hf (fun w1 e1 => zc_X7_advance (by omega) e1) (by omega) rfl rfl (Nat.le_of_ble_eq_true rfl) fun y8 hf => ?_
            refine z_aload_n 1 dX7_takeSum_59 rfl rfl ?_
            refine z_iload_n 2 dX7_takeSum_60 rfl rfl ?_
            refine z_cV_i (d' := d - 1) (As := [.int v1]) (rest := []) dX7_takeSum_61 lk_X7_205 rfl hf (fun w1 e1 => zc_X7_takeTerm hrs ⟨by omega, by omega⟩ e1) (by omega) rfl rfl (Nat.le_of_ble_eq_true rfl) fun y9 hf => ?_
            refine z_istore_n [(2, .int y9.1), (4, .int s0), (0, .ref v0), (1, .int v1), (3, .int v3)] dX7_takeSum_64 rfl (by decide) rfl ?_
            refine z_aload_n 2 dX7_takeSum_65 rfl rfl ?_
            refine z_getA dX7_takeSum_66 zc7 (by decide) wf_X7_24 hf fun x10 hf => ?_
            refine z_iload 1 dX7_takeSum_69 rfl ?_
            refine z_cV_v (d' := d - 1) (As := [.int s0]) (rest := []) dX7_takeSum_71 lk_X7_186 rfl hf (fun w1 e1 => zc_X6_push (by omega) e1) (by omega) rfl rfl (Nat.le_of_ble_eq_true rfl) fun y11 hf => ?_
            refine z_iinc (v3 + (1 : Int32)) 4 [(3, .int (v3 + (1 : Int32))), (2, .int y9.1), (4, .int s0), (0, .ref v0), (1, .int v1)] dX7_takeSum_74 rfl rfl (by decide) rfl ?_
            refine z_goto 8 dX7_takeSum_77 (by decide) ?_
            exact Z.sub [3, 4, 1, 0] rfl (ih y9.1 (v3 + (1 : Int32)) y11 hf)
          · refine z_if_eq 51 dX7_takeSum_43 (by decide) hf (fun hf => ?_) (fun hf => ?_)
            · refine z_bipush (-6 : Int32) dX7_takeSum_51 (by decide) ?_
              exact Z.sub [0, 1, 2] rfl (hj53 v3 (-6 : Int32) y7.2 hf)
            · refine z_bipush (-5 : Int32) dX7_takeSum_46 (by decide) ?_
              refine z_goto 53 dX7_takeSum_48 (by decide) ?_
              exact Z.sub [0, 1, 2] rfl (hj53 v3 (-5 : Int32) y7.2 hf)
        · refine z_if_ne 37 dX7_takeSum_25 (by decide) hf (fun hf => ?_) (fun hf => ?_)
          · refine z_aload_n 0 dX7_takeSum_28 rfl rfl ?_
            refine z_bipush (45 : Int32) dX7_takeSum_29 (by decide) ?_
            refine z_cV_i (d' := d - 1) (As := [.int (45 : Int32)]) (rest := []) dX7_takeSum_31 lk_X7_108 rfl hf (fun w1 e1 => zc_X7_isSign (by omega) e1) (by omega) rfl rfl (Nat.le_of_ble_eq_true rfl) fun y5 hf => ?_
            refine z_if_eq 80 dX7_takeSum_34 (by decide) hf (fun hf => ?_) (fun hf => ?_)
            · refine z_iload_n 2 dX7_takeSum_80 rfl rfl ?_
              obtain ⟨x6, hz, hf⟩ := Option.bind_eq_some_iff.mp hf
              obtain ⟨hb, rfl⟩ := zB_of hz
              exact z_zret dX7_takeSum_81 rfl hb (by cases hf; rfl)
            · exact Z.sub [0, 1, 3] rfl (hj37 v3 y5.2 hf)
          · exact Z.sub [0, 1, 3] rfl (hj37 v3 y4.2 hf)
set_option maxRecDepth 4000 in
theorem zc_X7_takeSum {Γ : zG} {N d : Nat} {rs : Nat → Int32 → zH → Option (Int32 × zH)} {dr : Nat} (hrs : ∀ (a : Nat) (p1 : Int32) (h : zH) (w : Int32 × zH), rs a p1 h = some w → Zm Γ m_X7_takeSum dr [.ref a, .int p1] h (zoI w)) (hd : 29 ≤ d ∧ dr + 3 ≤ d) {a : Nat} {p1 : Int32} {h : zH} {w : Int32 × zH} (hf : f_X7_takeSum N rs a p1 h = some w) : Zm Γ m_X7_takeSum d [.ref a, .int p1] h (zoI w) := by
  unfold f_X7_takeSum at hf
  refine z_meth rfl (plainFor_of_name wpl_X7) (by simp [lg_sl, Value.category, zml, m_X7_takeSum]) ?_
  refine z_aload_n 0 dX7_takeSum_0 rfl rfl ?_
  refine z_iload_n 1 dX7_takeSum_1 rfl rfl ?_
  refine z_cV_i (d' := d - 1) (As := [.int p1]) (rest := []) dX7_takeSum_2 lk_X7_205 rfl hf (fun w1 e1 => zc_X7_takeTerm hrs ⟨by omega, by omega⟩ e1) (by omega) rfl rfl (Nat.le_of_ble_eq_true rfl) fun y1 hf => ?_
  refine z_istore_n [(2, .int y1.1), (0, .ref a), (1, .int p1)] dX7_takeSum_5 rfl (by decide) rfl ?_
  refine z_iconst (0 : Int32) dX7_takeSum_6 (by decide) ?_
  refine z_istore_n [(3, .int (0 : Int32)), (2, .int y1.1), (0, .ref a), (1, .int p1)] dX7_takeSum_7 rfl (by decide) rfl ?_
  refine Z.sub [2, 3, 1, 0] rfl (zl_X7_takeSum_8 hrs hd  N y1.1 (0 : Int32) y1.2 hf)
theorem zc_X7_takeSumN {Γ : zG} {N n d : Nat} (hd : 60 + 4 * n ≤ d) {a : Nat} {p1 : Int32} {h : zH} {w : Int32 × zH} (hf : f_X7_takeSumN N n a p1 h = some w) : Zm Γ m_X7_takeSum d [.ref a, .int p1] h (zoI w) := by
  induction n generalizing d a p1 h w with
  | zero => cases hf
  | succ n ih =>
    rw [f_X7_takeSumN] at hf
    exact zc_X7_takeSum (dr := d - 4) (fun a p1 h w e => ih (by omega) e) ⟨by omega, by omega⟩ hf
set_option maxRecDepth 4000 in
theorem zc_J7_copyOf_59c91 {Γ : zG} {N d : Nat} (hd : 11 ≤ d) {p1 : Nat} {p2 : Int32} {h : zH} {w : Nat × zH} (hf : f_J7_copyOf_59c91 N p1 p2 h = some w) : Zm Γ m_J7_copyOf_59c91 d [.ref p1, .int p2] h (zoA w) := by
  unfold f_J7_copyOf_59c91 at hf
  refine z_meth rfl (plainFor_of_name (by decide +kernel)) (by simp [lg_sl, Value.category, zml, m_J7_copyOf_59c91]) ?_
  refine z_iload_n 1 dJ7_copyOf_59c91_0 rfl rfl ?_
  refine z_aload_n 0 dJ7_copyOf_59c91_1 rfl rfl ?_
  refine z_alen dJ7_copyOf_59c91_2 hf fun x1 hf => ?_
  refine z_icmp_ne 14 dJ7_copyOf_59c91_3 (by decide) hf (fun hf => ?_) (fun hf => ?_)
  · cases hf
  · refine z_iload_n 1 dJ7_copyOf_59c91_14 rfl rfl ?_
    refine z_nwI dJ7_copyOf_59c91_15 wa_I hf fun y2 hf => ?_
    refine z_astore_n [(2, .ref y2.1), (0, .ref p1), (1, .int p2)] dJ7_copyOf_59c91_17 rfl (by decide) rfl ?_
    refine z_aload_n 1 dJ7_copyOf_59c91_18 rfl rfl ?_
    refine z_iconst (0 : Int32) dJ7_copyOf_59c91_19 (by decide) ?_
    refine z_aload_n 0 dJ7_copyOf_59c91_20 rfl rfl ?_
    refine z_iconst (0 : Int32) dJ7_copyOf_59c91_21 (by decide) ?_
    refine z_aload_n 1 dJ7_copyOf_59c91_22 rfl rfl ?_
    refine z_alen dJ7_copyOf_59c91_23 hf fun x3 hf => ?_
    refine z_iload_n 2 dJ7_copyOf_59c91_24 rfl rfl ?_
    refine z_cS_i (d' := d - 1) (As := [.int x3, .int p2]) (rest := [.int (0 : Int32), .ref y2.1, .int (0 : Int32), .ref p1]) dJ7_copyOf_59c91_25 lk_J7_304 hf (fun w1 e1 => zc_J9_min_7cf53 (by omega) e1) (by omega) rfl rfl (Nat.le_of_ble_eq_true rfl) fun y4 hf => ?_
    refine z_copyI dJ7_copyOf_59c91_28 wl_J7_150 wi_acn wi_acs wi_sys (by omega) (Nat.le_of_ble_eq_true rfl) hf fun h5 hf => ?_
    refine z_aload_n 0 dJ7_copyOf_59c91_31 rfl rfl ?_
    exact z_aret dJ7_copyOf_59c91_32 rfl (Or.inr ⟨_, rfl⟩) (Or.inr ⟨_, rfl⟩) (by cases hf; rfl)

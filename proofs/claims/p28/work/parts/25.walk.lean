set_option maxRecDepth 4000 in
theorem zc_J5_ensureCapacityInternal_d00df {Γ : zG} {N d : Nat} (hd : 13 ≤ d) {a : Nat} {p1 : Int32} {h : zH} {w : zH} (hf : f_J5_ensureCapacityInternal_d00df N a p1 h = some w) : Zm Γ m_J5_ensureCapacityInternal_d00df d [.ref a, .int p1] h (zoV w) := by
  unfold f_J5_ensureCapacityInternal_d00df at hf
  refine z_meth rfl (plainFor_of_name (by decide +kernel)) (by simp [lg_sl, Value.category, zml, m_J5_ensureCapacityInternal_d00df]) ?_
  refine z_aload_n 0 dJ5_ensureCapacityInternal_d00df_0 rfl rfl ?_
  refine z_getA dJ5_ensureCapacityInternal_d00df_1 zc14 (by decide) wf_J5_15 hf fun x1 hf => ?_
  refine z_alen dJ5_ensureCapacityInternal_d00df_4 hf fun x2 hf => ?_
  refine z_aload_n 0 dJ5_ensureCapacityInternal_d00df_5 rfl rfl ?_
  refine z_getI dJ5_ensureCapacityInternal_d00df_6 zc14 (by decide) wf_J5_22 hf fun x3 hf => ?_
  refine z_ishr dJ5_ensureCapacityInternal_d00df_9 ?_
  refine z_istore_n [(2, .int (x2 >>> (x3 &&& 31))), (0, .ref a), (1, .int p1)] dJ5_ensureCapacityInternal_d00df_10 rfl (by decide) rfl ?_
  refine z_iload_n 2 dJ5_ensureCapacityInternal_d00df_11 rfl rfl ?_
  refine z_iload_n 0 dJ5_ensureCapacityInternal_d00df_12 rfl rfl ?_
  refine z_isub dJ5_ensureCapacityInternal_d00df_13 ?_
  refine z_if_le 38 dJ5_ensureCapacityInternal_d00df_14 (by decide) hf (fun hf => ?_) (fun hf => ?_)
  · exact z_vret dJ5_ensureCapacityInternal_d00df_38 rfl (by cases hf; rfl)
  · refine z_aload_n 1 dJ5_ensureCapacityInternal_d00df_17 rfl rfl ?_
    refine z_aload_n 1 dJ5_ensureCapacityInternal_d00df_18 rfl rfl ?_
    refine z_getA dJ5_ensureCapacityInternal_d00df_19 zc14 (by decide) wf_J5_15 hf fun x4 hf => ?_
    refine z_aload_n 1 dJ5_ensureCapacityInternal_d00df_22 rfl rfl ?_
    refine z_iload_n 2 dJ5_ensureCapacityInternal_d00df_23 rfl rfl ?_
    refine z_cU_i (d' := d - 1) (As := [.int p1]) (rest := [.ref x4, .ref a]) dJ5_ensureCapacityInternal_d00df_24 lk_J5_104 rfl hf (fun w1 e1 => zc_J5_newCapacity_0f7a4 (by omega) e1) (by omega) rfl rfl (Nat.le_of_ble_eq_true rfl) fun y5 hf => ?_
    refine z_aload_n 1 dJ5_ensureCapacityInternal_d00df_27 rfl rfl ?_
    refine z_getI dJ5_ensureCapacityInternal_d00df_28 zc14 (by decide) wf_J5_22 hf fun x6 hf => ?_
    refine z_ishl dJ5_ensureCapacityInternal_d00df_31 ?_
    refine z_cS_a (d' := d - 1) (As := [.ref x4, .int (y5.1 <<< (x6 &&& 31))]) (rest := [.ref a]) dJ5_ensureCapacityInternal_d00df_32 lk_J5_108 hf (fun w1 e1 => zc_J7_copyOf_9075b (by omega) e1) (by omega) rfl rfl (Nat.le_of_ble_eq_true rfl) fun y7 hf => ?_
    refine z_putB dJ5_ensureCapacityInternal_d00df_35 zc14 (by decide) wf_J5_15 (Or.inl rfl) rfl rfl hf fun h8 hf => ?_
    exact z_vret dJ5_ensureCapacityInternal_d00df_38 rfl (by cases hf; rfl)
set_option maxRecDepth 4000 in
theorem zc_J5_inflateIfNeededFor_a7421 {Γ : zG} {N d : Nat} (hd : 25 ≤ d) {a : Nat} {p1 : Nat} {h : zH} {w : zH} (hf : f_J5_inflateIfNeededFor_a7421 N a p1 h = some w) : Zm Γ m_J5_inflateIfNeededFor_a7421 d [.ref a, .ref p1] h (zoV w) := by
  unfold f_J5_inflateIfNeededFor_a7421 at hf
  refine z_meth rfl (plainFor_of_name (by decide +kernel)) (by simp [lg_sl, Value.category, zml, m_J5_inflateIfNeededFor_a7421]) ?_
  refine z_cs dJ5_inflateIfNeededFor_a7421_0 wj_J5_18 ?_
  refine z_if_eq 21 dJ5_inflateIfNeededFor_a7421_3 (by decide) hf (fun hf => ?_) (fun hf => ?_)
  · exact z_vret dJ5_inflateIfNeededFor_a7421_21 rfl (by cases hf; rfl)
  · refine z_aload_n 0 dJ5_inflateIfNeededFor_a7421_6 rfl rfl ?_
    refine z_getI dJ5_inflateIfNeededFor_a7421_7 zc14 (by decide) wf_J5_22 hf fun x1 hf => ?_
    refine z_aload_n 1 dJ5_inflateIfNeededFor_a7421_10 rfl rfl ?_
    refine z_cdA dJ5_inflateIfNeededFor_a7421_11 lk_J5_40 (by omega) (Nat.le_of_ble_eq_true rfl) hf fun x2 hf => ?_
    refine z_icmp_eq 21 dJ5_inflateIfNeededFor_a7421_14 (by decide) hf (fun hf => ?_) (fun hf => ?_)
    · exact z_vret dJ5_inflateIfNeededFor_a7421_21 rfl (by cases hf; rfl)
    · cases hf
set_option maxRecDepth 4000 in
theorem zc_J5_putStringAt_47b60 {Γ : zG} {N d : Nat} (hd : 26 ≤ d) {a : Nat} {p1 : Int32} {p2 : Nat} {h : zH} {w : zH} (hf : f_J5_putStringAt_47b60 N a p1 p2 h = some w) : Zm Γ m_J5_putStringAt_47b60 d [.ref a, .int p1, .ref p2] h (zoV w) := by
  unfold f_J5_putStringAt_47b60 at hf
  refine z_meth rfl (plainFor_of_name (by decide +kernel)) (by simp [lg_sl, Value.category, zml, m_J5_putStringAt_47b60]) ?_
  refine z_aload_n 0 dJ5_putStringAt_47b60_0 rfl rfl ?_
  refine z_aload_n 2 dJ5_putStringAt_47b60_1 rfl rfl ?_
  refine z_cU_v (d' := d - 1) (As := [.ref p2]) (rest := []) dJ5_putStringAt_47b60_2 lk_J5_397 rfl hf (fun w1 e1 => zc_J5_inflateIfNeededFor_a7421 (by omega) e1) (by omega) rfl rfl (Nat.le_of_ble_eq_true rfl) fun y1 hf => ?_
  refine z_aload_n 2 dJ5_putStringAt_47b60_5 rfl rfl ?_
  refine z_aload_n 0 dJ5_putStringAt_47b60_6 rfl rfl ?_
  refine z_getA dJ5_putStringAt_47b60_7 zc14 (by decide) wf_J5_15 hf fun x2 hf => ?_
  refine z_iload_n 1 dJ5_putStringAt_47b60_10 rfl rfl ?_
  refine z_aload_n 0 dJ5_putStringAt_47b60_11 rfl rfl ?_
  refine z_getI dJ5_putStringAt_47b60_12 zc14 (by decide) wf_J5_22 hf fun x3 hf => ?_
  refine z_gbS dJ5_putStringAt_47b60_15 lk_J5_399 (by omega) (Nat.le_of_ble_eq_true rfl) hf fun h5 hf => ?_
  exact z_vret dJ5_putStringAt_47b60_18 rfl (by cases hf; rfl)
set_option maxRecDepth 4000 in
theorem zc_J5_append_cf1ce {Γ : zG} {N d : Nat} (hd : 27 ≤ d) {a : Nat} {p1 : Nat} {h : zH} {w : Nat × zH} (hf : f_J5_append_cf1ce N a p1 h = some w) : Zm Γ m_J5_append_cf1ce d [.ref a, .ref p1] h (zoA w) := by
  unfold f_J5_append_cf1ce at hf
  refine z_meth rfl (plainFor_of_name (by decide +kernel)) (by simp [lg_sl, Value.category, zml, m_J5_append_cf1ce]) ?_
  refine z_aload_n 1 dJ5_append_cf1ce_0 rfl rfl ?_
  refine z_ifnonnull 9 dJ5_append_cf1ce_1 (by decide) ?_
  refine z_aload_n 1 dJ5_append_cf1ce_9 rfl rfl ?_
  refine z_lnA dJ5_append_cf1ce_10 lk_J5_32 (by omega) (Nat.le_of_ble_eq_true rfl) hf fun x1 hf => ?_
  refine z_istore_n [(2, .int x1), (0, .ref a), (1, .ref p1)] dJ5_append_cf1ce_13 rfl (by decide) rfl ?_
  refine z_aload_n 1 dJ5_append_cf1ce_14 rfl rfl ?_
  refine z_aload_n 1 dJ5_append_cf1ce_15 rfl rfl ?_
  refine z_getI dJ5_append_cf1ce_16 zc14 (by decide) wf_J5_79 hf fun x2 hf => ?_
  refine z_iload_n 0 dJ5_append_cf1ce_19 rfl rfl ?_
  refine z_iadd dJ5_append_cf1ce_20 ?_
  refine z_cU_v (d' := d - 1) (As := [.int (x2 + x1)]) (rest := []) dJ5_append_cf1ce_21 lk_J5_100 rfl hf (fun w1 e1 => zc_J5_ensureCapacityInternal_d00df (by omega) e1) (by omega) rfl rfl (Nat.le_of_ble_eq_true rfl) fun y3 hf => ?_
  refine z_aload_n 1 dJ5_append_cf1ce_24 rfl rfl ?_
  refine z_aload_n 1 dJ5_append_cf1ce_25 rfl rfl ?_
  refine z_getI dJ5_append_cf1ce_26 zc14 (by decide) wf_J5_79 hf fun x4 hf => ?_
  refine z_aload_n 2 dJ5_append_cf1ce_29 rfl rfl ?_
  refine z_cU_v (d' := d - 1) (As := [.int x4, .ref p1]) (rest := []) dJ5_append_cf1ce_30 lk_J5_208 rfl hf (fun w1 e1 => zc_J5_putStringAt_47b60 (by omega) e1) (by omega) rfl rfl (Nat.le_of_ble_eq_true rfl) fun y5 hf => ?_
  refine z_aload_n 1 dJ5_append_cf1ce_33 rfl rfl ?_
  refine z_dup dJ5_append_cf1ce_34 rfl ?_
  refine z_getI dJ5_append_cf1ce_35 zc14 (by decide) wf_J5_79 hf fun x6 hf => ?_
  refine z_iload_n 0 dJ5_append_cf1ce_38 rfl rfl ?_
  refine z_iadd dJ5_append_cf1ce_39 ?_
  refine z_putB dJ5_append_cf1ce_40 zc14 (by decide) wf_J5_79 (Or.inl rfl) rfl rfl hf fun h7 hf => ?_
  refine z_aload_n 1 dJ5_append_cf1ce_43 rfl rfl ?_
  exact z_aret dJ5_append_cf1ce_44 rfl (Or.inl ⟨_, rfl⟩) (Or.inr ⟨_, rfl⟩) (by cases hf; rfl)
set_option maxRecDepth 4000 in
theorem zc_J4_append_15ec4 {Γ : zG} {N d : Nat} (hd : 28 ≤ d) {a : Nat} {p1 : Nat} {h : zH} {w : Nat × zH} (hf : f_J4_append_15ec4 N a p1 h = some w) : Zm Γ m_J4_append_15ec4 d [.ref a, .ref p1] h (zoA w) := by
  unfold f_J4_append_15ec4 at hf
  refine z_meth rfl (plainFor_of_name (by decide +kernel)) (by simp [lg_sl, Value.category, zml, m_J4_append_15ec4]) ?_
  refine z_aload_n 0 dJ4_append_15ec4_0 rfl rfl ?_
  refine z_aload_n 1 dJ4_append_15ec4_1 rfl rfl ?_
  refine z_cSU_a (d' := d - 1) (As := [.ref p1]) (rest := []) dJ4_append_15ec4_2 lk_J4_29 rfl hf (fun w1 e1 => zc_J5_append_cf1ce (by omega) e1) (by omega) rfl rfl (Nat.le_of_ble_eq_true rfl) fun y1 hf => ?_
  refine z_pop dJ4_append_15ec4_5 rfl ?_
  refine z_aload_n 0 dJ4_append_15ec4_6 rfl rfl ?_
  exact z_aret dJ4_append_15ec4_7 rfl (Or.inl ⟨_, rfl⟩) (Or.inr ⟨_, rfl⟩) (by cases hf; rfl)
set_option maxRecDepth 4000 in
theorem zl_J6_stringSize_0f7a4_16 {Γ : zG} {N d : Nat} {h0 : zH} (hd : 10 ≤ d) {v0 : Int32} {v1 : Int32} {k1 : zH → Option (Int32 × zH)} {k2 : Int32 → zH → Option (Int32 × zH)} {w : Int32 × zH}  (hk1 : ∀ (h : zH), k1 h = some w → Z Γ m_J6_stringSize_0f7a4 d h0 (zoI w) 42 [(1, .int v1)] [] h) (hk2 : ∀ (v3 : Int32) (h : zH), k2 v3 h = some w → Z Γ m_J6_stringSize_0f7a4 d h0 (zoI w) 27 [(1, .int v1), (3, .int v3)] [] h) : ∀ (n : Nat) (v2 : Int32) (v3 : Int32) (h : zH), f_J6_stringSize_0f7a4_l16 N v0 v1 k1 k2 n v2 v3 h = some w → Z Γ m_J6_stringSize_0f7a4 d h0 (zoI w) 16 [(0, .int v0), (1, .int v1), (2, .int v2), (3, .int v3)] [] h := by
  intro n
  induction n with
  | zero => intro v2 v3 h hf; cases hf
  | succ n ih =>
    intro v2 v3 h hf
    rw [f_J6_stringSize_0f7a4_l16] at hf
    refine z_iload_n 3 dJ6_stringSize_0f7a4_16 rfl rfl ?_
    refine z_bipush (10 : Int32) dJ6_stringSize_0f7a4_17 (by decide) ?_
    refine z_icmp_ge 42 dJ6_stringSize_0f7a4_19 (by decide) hf (fun hf => ?_) (fun hf => ?_)
    · exact Z.sub [1] rfl (hk1 h hf)
    · refine z_iload_n 0 dJ6_stringSize_0f7a4_22 rfl rfl ?_
      refine z_iload_n 2 dJ6_stringSize_0f7a4_23 rfl rfl ?_
      refine z_icmp_le 31 dJ6_stringSize_0f7a4_24 (by decide) hf (fun hf => ?_) (fun hf => ?_)
      · refine z_bipush (10 : Int32) dJ6_stringSize_0f7a4_31 (by decide) ?_
        refine z_iload_n 2 dJ6_stringSize_0f7a4_33 rfl rfl ?_
        refine z_imul dJ6_stringSize_0f7a4_34 ?_
        refine z_istore_n [(2, .int ((10 : Int32) * v2)), (0, .int v0), (1, .int v1), (3, .int v3)] dJ6_stringSize_0f7a4_35 rfl (by decide) rfl ?_
        refine z_iinc (v3 + (1 : Int32)) 3 [(3, .int (v3 + (1 : Int32))), (2, .int ((10 : Int32) * v2)), (0, .int v0), (1, .int v1)] dJ6_stringSize_0f7a4_36 rfl rfl (by decide) rfl ?_
        refine z_goto 16 dJ6_stringSize_0f7a4_39 (by decide) ?_
        exact Z.sub [2, 3, 1, 0] rfl (ih ((10 : Int32) * v2) (v3 + (1 : Int32)) h hf)
      · exact Z.sub [1, 3] rfl (hk2 v3 h hf)
set_option maxRecDepth 4000 in
theorem zj_J6_stringSize_0f7a4_11 {Γ : zG} {N d : Nat} {h0 : zH} (hd : 10 ≤ d) {v0 : Int32} {v1 : Int32}  {h : zH} {w : Int32 × zH} (hf : f_J6_stringSize_0f7a4_j11 N v0 v1  h = some w) : Z Γ m_J6_stringSize_0f7a4 d h0 (zoI w) 11 [(0, .int v0), (1, .int v1)] [] h := by
  unfold f_J6_stringSize_0f7a4_j11 at hf
  refine z_bipush (-10 : Int32) dJ6_stringSize_0f7a4_11 (by decide) ?_
  refine z_istore_n [(2, .int (-10 : Int32)), (0, .int v0), (1, .int v1)] dJ6_stringSize_0f7a4_13 rfl (by decide) rfl ?_
  refine z_iconst (1 : Int32) dJ6_stringSize_0f7a4_14 (by decide) ?_
  refine z_istore_n [(3, .int (1 : Int32)), (2, .int (-10 : Int32)), (0, .int v0), (1, .int v1)] dJ6_stringSize_0f7a4_15 rfl (by decide) rfl ?_
  refine Z.sub [2, 3, 1, 0] rfl (zl_J6_stringSize_0f7a4_16 hd (fun h1 hf => ?_) (fun u2 h3 hf => ?_) N (-10 : Int32) (1 : Int32) h hf)
  · refine z_bipush (10 : Int32) dJ6_stringSize_0f7a4_42 (by decide) ?_
    refine z_iload_n 0 dJ6_stringSize_0f7a4_44 rfl rfl ?_
    refine z_iadd dJ6_stringSize_0f7a4_45 ?_
    exact z_iret dJ6_stringSize_0f7a4_46 rfl (by cases hf; rfl)
  · refine z_iload_n 1 dJ6_stringSize_0f7a4_27 rfl rfl ?_
    refine z_iload_n 0 dJ6_stringSize_0f7a4_28 rfl rfl ?_
    refine z_iadd dJ6_stringSize_0f7a4_29 ?_
    exact z_iret dJ6_stringSize_0f7a4_30 rfl (by cases hf; rfl)
set_option maxRecDepth 4000 in
theorem zc_J6_stringSize_0f7a4 {Γ : zG} {N d : Nat} (hd : 10 ≤ d) {p1 : Int32} {h : zH} {w : Int32 × zH} (hf : f_J6_stringSize_0f7a4 N p1 h = some w) : Zm Γ m_J6_stringSize_0f7a4 d [.int p1] h (zoI w) := by
  unfold f_J6_stringSize_0f7a4 at hf
  refine z_meth rfl (plainFor_of_name (by decide +kernel)) (by simp [lg_sl, Value.category, zml, m_J6_stringSize_0f7a4]) ?_
  refine z_iconst (1 : Int32) dJ6_stringSize_0f7a4_0 (by decide) ?_
  refine z_istore_n [(1, .int (1 : Int32)), (0, .int p1)] dJ6_stringSize_0f7a4_1 rfl (by decide) rfl ?_
  refine z_iload_n 1 dJ6_stringSize_0f7a4_2 rfl rfl ?_
  refine z_if_lt 11 dJ6_stringSize_0f7a4_3 (by decide) hf (fun hf => ?_) (fun hf => ?_)
  · exact Z.sub [1, 0] rfl (zj_J6_stringSize_0f7a4_11 hd hf)
  · refine z_iconst (0 : Int32) dJ6_stringSize_0f7a4_6 (by decide) ?_
    refine z_istore_n [(1, .int (0 : Int32)), (0, .int p1)] dJ6_stringSize_0f7a4_7 rfl (by decide) rfl ?_
    refine z_iload_n 1 dJ6_stringSize_0f7a4_8 rfl rfl ?_
    refine z_ineg dJ6_stringSize_0f7a4_9 ?_
    refine z_istore_n [(0, .int (-p1)), (1, .int (0 : Int32))] dJ6_stringSize_0f7a4_10 rfl (by decide) rfl ?_
    exact Z.sub [0, 1] rfl (zj_J6_stringSize_0f7a4_11 hd hf)
set_option maxRecDepth 4000 in
theorem zc_J5_isLatin1_aae02 {Γ : zG} {N d : Nat} (hd : 10 ≤ d) {a : Nat} {h : zH} {w : Int32 × zH} (hf : f_J5_isLatin1_aae02 N a h = some w) : Zm Γ m_J5_isLatin1_aae02 d [.ref a] h (zoI w) := by
  unfold f_J5_isLatin1_aae02 at hf
  refine z_meth rfl (plainFor_of_name (by decide +kernel)) (by simp [lg_sl, Value.category, zml, m_J5_isLatin1_aae02]) ?_
  refine z_cs dJ5_isLatin1_aae02_0 wj_J5_18 ?_
  refine z_if_eq 17 dJ5_isLatin1_aae02_3 (by decide) hf (fun hf => ?_) (fun hf => ?_)
  · refine z_iconst (0 : Int32) dJ5_isLatin1_aae02_17 (by decide) ?_
    exact z_zret dJ5_isLatin1_aae02_18 rfl (Or.inl rfl) (by cases hf; rfl)
  · refine z_aload_n 0 dJ5_isLatin1_aae02_6 rfl rfl ?_
    refine z_getI dJ5_isLatin1_aae02_7 zc14 (by decide) wf_J5_22 hf fun x1 hf => ?_
    refine z_if_ne 17 dJ5_isLatin1_aae02_10 (by decide) hf (fun hf => ?_) (fun hf => ?_)
    · refine z_iconst (1 : Int32) dJ5_isLatin1_aae02_13 (by decide) ?_
      refine z_goto 18 dJ5_isLatin1_aae02_14 (by decide) ?_
      exact z_zret dJ5_isLatin1_aae02_18 rfl (Or.inr rfl) (by cases hf; rfl)
    · refine z_iconst (0 : Int32) dJ5_isLatin1_aae02_17 (by decide) ?_
      exact z_zret dJ5_isLatin1_aae02_18 rfl (Or.inl rfl) (by cases hf; rfl)
set_option maxRecDepth 4000 in
theorem zl_J6_getChars_ba4f3_22 {Γ : zG} {N d : Nat} {h0 : zH} (hd : 10 ≤ d) {v2 : Nat} {v6 : Int32} {k1 : Int32 → Int32 → zH → Option (Int32 × zH)} {w : Int32 × zH}  (hk1 : ∀ (v0 : Int32) (v5 : Int32) (h : zH), k1 v0 v5 h = some w → Z Γ m_J6_getChars_ba4f3 d h0 (zoI w) 72 [(0, .int v0), (2, .ref v2), (5, .int v5), (6, .int v6)] [] h) : ∀ (n : Nat) (v0 : Int32) (v5 : Int32) (h : zH), f_J6_getChars_ba4f3_l22 N v2 v6 k1 n v0 v5 h = some w → Z Γ m_J6_getChars_ba4f3 d h0 (zoI w) 22 [(0, .int v0), (2, .ref v2), (5, .int v5), (6, .int v6)] [] h := by
  intro n
  induction n with
  | zero => intro v0 v5 h hf; cases hf
  | succ n ih =>
    intro v0 v5 h hf
    rw [f_J6_getChars_ba4f3_l22] at hf
    refine z_iload_n 0 dJ6_getChars_ba4f3_22 rfl rfl ?_
    refine z_bipush (-100 : Int32) dJ6_getChars_ba4f3_23 (by decide) ?_
    refine z_icmp_gt 72 dJ6_getChars_ba4f3_25 (by decide) hf (fun hf => ?_) (fun hf => ?_)
    · exact Z.sub [0, 1, 2, 3] rfl (hk1 v0 v5 h hf)
    · refine z_iload_n 0 dJ6_getChars_ba4f3_28 rfl rfl ?_
      refine z_bipush (100 : Int32) dJ6_getChars_ba4f3_29 (by decide) ?_
      refine z_idiv dJ6_getChars_ba4f3_31 hf fun x1 hf => ?_
      refine z_istore_n [(3, .int x1), (0, .int v0), (2, .ref v2), (5, .int v5), (6, .int v6)] dJ6_getChars_ba4f3_32 rfl (by decide) rfl ?_
      refine z_iload_n 0 dJ6_getChars_ba4f3_33 rfl rfl ?_
      refine z_bipush (100 : Int32) dJ6_getChars_ba4f3_34 (by decide) ?_
      refine z_imul dJ6_getChars_ba4f3_36 ?_
      refine z_iload_n 1 dJ6_getChars_ba4f3_37 rfl rfl ?_
      refine z_isub dJ6_getChars_ba4f3_38 ?_
      refine z_istore [(4, .int ((x1 * (100 : Int32)) - v0)), (3, .int x1), (0, .int v0), (2, .ref v2), (5, .int v5), (6, .int v6)] dJ6_getChars_ba4f3_39 (by decide) rfl ?_
      refine z_iload_n 1 dJ6_getChars_ba4f3_41 rfl rfl ?_
      refine z_istore_n [(0, .int x1), (4, .int ((x1 * (100 : Int32)) - v0)), (3, .int x1), (2, .ref v2), (5, .int v5), (6, .int v6)] dJ6_getChars_ba4f3_42 rfl (by decide) rfl ?_
      refine z_aload_n 3 dJ6_getChars_ba4f3_43 rfl rfl ?_
      refine z_iinc (v5 + (-1 : Int32)) 4 [(5, .int (v5 + (-1 : Int32))), (0, .int x1), (4, .int ((x1 * (100 : Int32)) - v0)), (3, .int x1), (2, .ref v2), (6, .int v6)] dJ6_getChars_ba4f3_44 rfl rfl (by decide) rfl ?_
      refine z_iload 0 dJ6_getChars_ba4f3_47 rfl ?_
      refine z_gsD1 dJ6_getChars_ba4f3_49 wj_J6_83 ?_
      refine z_iload 2 dJ6_getChars_ba4f3_52 rfl ?_
      refine z_baD1 dJ6_getChars_ba4f3_54 hf fun x2 hf => ?_
      refine z_bastore dJ6_getChars_ba4f3_55 hf fun h3 hf => ?_
      refine z_aload_n 4 dJ6_getChars_ba4f3_56 rfl rfl ?_
      refine z_iinc ((v5 + (-1 : Int32)) + (-1 : Int32)) 0 [(5, .int ((v5 + (-1 : Int32)) + (-1 : Int32))), (0, .int x1), (4, .int ((x1 * (100 : Int32)) - v0)), (3, .int x1), (2, .ref v2), (6, .int v6)] dJ6_getChars_ba4f3_57 rfl rfl (by decide) rfl ?_
      refine z_iload 0 dJ6_getChars_ba4f3_60 rfl ?_
      refine z_gsD2 dJ6_getChars_ba4f3_62 wj_J6_87 ?_
      refine z_iload 2 dJ6_getChars_ba4f3_65 rfl ?_
      refine z_baD2 dJ6_getChars_ba4f3_67 hf fun x4 hf => ?_
      refine z_bastore dJ6_getChars_ba4f3_68 hf fun h5 hf => ?_
      refine z_goto 22 dJ6_getChars_ba4f3_69 (by decide) ?_
      exact Z.sub [1, 4, 0, 5] rfl (ih x1 ((v5 + (-1 : Int32)) + (-1 : Int32)) h5 hf)
set_option maxRecDepth 4000 in
theorem zj_J6_getChars_ba4f3_104 {Γ : zG} {N d : Nat} {h0 : zH} (hd : 10 ≤ d) {v2 : Nat} {v5 : Int32} {v6 : Int32}  {h : zH} {w : Int32 × zH} (hf : f_J6_getChars_ba4f3_j104 N v2 v5 v6  h = some w) : Z Γ m_J6_getChars_ba4f3 d h0 (zoI w) 104 [(2, .ref v2), (5, .int v5), (6, .int v6)] [] h := by
  unfold f_J6_getChars_ba4f3_j104 at hf
  refine z_iload 2 dJ6_getChars_ba4f3_104 rfl ?_
  refine z_if_eq 118 dJ6_getChars_ba4f3_106 (by decide) hf (fun hf => ?_) (fun hf => ?_)
  · refine z_iload 1 dJ6_getChars_ba4f3_118 rfl ?_
    exact z_iret dJ6_getChars_ba4f3_120 rfl (by cases hf; rfl)
  · cases hf
set_option maxRecDepth 4000 in
theorem zj_J6_getChars_ba4f3_22 {Γ : zG} {N d : Nat} {h0 : zH} (hd : 10 ≤ d) {v0 : Int32} {v2 : Nat} {v5 : Int32} {v6 : Int32}  {h : zH} {w : Int32 × zH} (hf : f_J6_getChars_ba4f3_j22 N v0 v2 v5 v6  h = some w) : Z Γ m_J6_getChars_ba4f3 d h0 (zoI w) 22 [(0, .int v0), (2, .ref v2), (5, .int v5), (6, .int v6)] [] h := by
  unfold f_J6_getChars_ba4f3_j22 at hf
  refine Z.sub [0, 1, 2, 3] rfl (zl_J6_getChars_ba4f3_22 hd (fun u6 u7 h8 hf => ?_) N v0 v5 h hf)
  · refine z_aload_n 1 dJ6_getChars_ba4f3_72 rfl rfl ?_
    refine z_iinc (u7 + (-1 : Int32)) 2 [(5, .int (u7 + (-1 : Int32))), (0, .int u6), (2, .ref v2), (6, .int v6)] dJ6_getChars_ba4f3_73 rfl rfl (by decide) rfl ?_
    refine z_iload 0 dJ6_getChars_ba4f3_76 rfl ?_
    refine z_gsD1 dJ6_getChars_ba4f3_78 wj_J6_83 ?_
    refine z_iload_n 1 dJ6_getChars_ba4f3_81 rfl rfl ?_
    refine z_ineg dJ6_getChars_ba4f3_82 ?_
    refine z_baD1 dJ6_getChars_ba4f3_83 hf fun x9 hf => ?_
    refine z_bastore dJ6_getChars_ba4f3_84 hf fun h10 hf => ?_
    refine z_iload_n 1 dJ6_getChars_ba4f3_85 rfl rfl ?_
    refine z_bipush (-9 : Int32) dJ6_getChars_ba4f3_86 (by decide) ?_
    refine z_icmp_ge 104 dJ6_getChars_ba4f3_88 (by decide) hf (fun hf => ?_) (fun hf => ?_)
    · exact Z.sub [2, 0, 3] rfl (zj_J6_getChars_ba4f3_104 hd hf)
    · refine z_aload_n 2 dJ6_getChars_ba4f3_91 rfl rfl ?_
      refine z_iinc ((u7 + (-1 : Int32)) + (-1 : Int32)) 0 [(5, .int ((u7 + (-1 : Int32)) + (-1 : Int32))), (0, .int u6), (2, .ref v2), (6, .int v6)] dJ6_getChars_ba4f3_92 rfl rfl (by decide) rfl ?_
      refine z_iload 0 dJ6_getChars_ba4f3_95 rfl ?_
      refine z_gsD2 dJ6_getChars_ba4f3_97 wj_J6_87 ?_
      refine z_iload_n 1 dJ6_getChars_ba4f3_100 rfl rfl ?_
      refine z_ineg dJ6_getChars_ba4f3_101 ?_
      refine z_baD2 dJ6_getChars_ba4f3_102 hf fun x11 hf => ?_
      refine z_bastore dJ6_getChars_ba4f3_103 hf fun h12 hf => ?_
      exact Z.sub [2, 0, 3] rfl (zj_J6_getChars_ba4f3_104 hd hf)
set_option maxRecDepth 4000 in
theorem zc_J6_getChars_ba4f3 {Γ : zG} {N d : Nat} (hd : 10 ≤ d) {p1 : Int32} {p2 : Int32} {p3 : Nat} {h : zH} {w : Int32 × zH} (hf : f_J6_getChars_ba4f3 N p1 p2 p3 h = some w) : Zm Γ m_J6_getChars_ba4f3 d [.int p1, .int p2, .ref p3] h (zoI w) := by
  unfold f_J6_getChars_ba4f3 at hf
  refine z_meth rfl (plainFor_of_name (by decide +kernel)) (by simp [lg_sl, Value.category, zml, m_J6_getChars_ba4f3]) ?_
  refine z_iload_n 1 dJ6_getChars_ba4f3_0 rfl rfl ?_
  refine z_istore [(5, .int p2), (0, .int p1), (1, .int p2), (2, .ref p3)] dJ6_getChars_ba4f3_1 (by decide) rfl ?_
  refine z_iload_n 1 dJ6_getChars_ba4f3_3 rfl rfl ?_
  refine z_if_ge 11 dJ6_getChars_ba4f3_4 (by decide) hf (fun hf => ?_) (fun hf => ?_)
  · refine z_iconst (0 : Int32) dJ6_getChars_ba4f3_11 (by decide) ?_
    refine z_istore [(6, .int (0 : Int32)), (5, .int p2), (0, .int p1), (1, .int p2), (2, .ref p3)] dJ6_getChars_ba4f3_12 (by decide) rfl ?_
    refine z_iload 0 dJ6_getChars_ba4f3_14 rfl ?_
    refine z_if_ne 22 dJ6_getChars_ba4f3_16 (by decide) hf (fun hf => ?_) (fun hf => ?_)
    · refine z_iload_n 2 dJ6_getChars_ba4f3_19 rfl rfl ?_
      refine z_ineg dJ6_getChars_ba4f3_20 ?_
      refine z_istore_n [(0, .int (-p1)), (6, .int (0 : Int32)), (5, .int p2), (1, .int p2), (2, .ref p3)] dJ6_getChars_ba4f3_21 rfl (by decide) rfl ?_
      exact Z.sub [0, 4, 2, 1] rfl (zj_J6_getChars_ba4f3_22 hd hf)
    · exact Z.sub [2, 4, 1, 0] rfl (zj_J6_getChars_ba4f3_22 hd hf)
  · cases hf
set_option maxRecDepth 4000 in
theorem zc_J5_append_c97b9 {Γ : zG} {N d : Nat} (hd : 14 ≤ d) {a : Nat} {p1 : Int32} {h : zH} {w : Nat × zH} (hf : f_J5_append_c97b9 N a p1 h = some w) : Zm Γ m_J5_append_c97b9 d [.ref a, .int p1] h (zoA w) := by
  unfold f_J5_append_c97b9 at hf
  refine z_meth rfl (plainFor_of_name (by decide +kernel)) (by simp [lg_sl, Value.category, zml, m_J5_append_c97b9]) ?_
  refine z_aload_n 0 dJ5_append_c97b9_0 rfl rfl ?_
  refine z_getI dJ5_append_c97b9_1 zc14 (by decide) wf_J5_79 hf fun x1 hf => ?_
  refine z_istore_n [(2, .int x1), (0, .ref a), (1, .int p1)] dJ5_append_c97b9_4 rfl (by decide) rfl ?_
  refine z_iload_n 0 dJ5_append_c97b9_5 rfl rfl ?_
  refine z_iload_n 2 dJ5_append_c97b9_6 rfl rfl ?_
  refine z_cS_i (d' := d - 1) (As := [.int p1]) (rest := [.int x1]) dJ5_append_c97b9_7 lk_J5_245 hf (fun w1 e1 => zc_J6_stringSize_0f7a4 (by omega) e1) (by omega) rfl rfl (Nat.le_of_ble_eq_true rfl) fun y2 hf => ?_
  refine z_iadd dJ5_append_c97b9_10 ?_
  refine z_istore_n [(3, .int (x1 + y2.1)), (2, .int x1), (0, .ref a), (1, .int p1)] dJ5_append_c97b9_11 rfl (by decide) rfl ?_
  refine z_aload_n 2 dJ5_append_c97b9_12 rfl rfl ?_
  refine z_iload_n 0 dJ5_append_c97b9_13 rfl rfl ?_
  refine z_cU_v (d' := d - 1) (As := [.int (x1 + y2.1)]) (rest := []) dJ5_append_c97b9_14 lk_J5_100 rfl hf (fun w1 e1 => zc_J5_ensureCapacityInternal_d00df (by omega) e1) (by omega) rfl rfl (Nat.le_of_ble_eq_true rfl) fun y3 hf => ?_
  refine z_aload_n 2 dJ5_append_c97b9_17 rfl rfl ?_
  refine z_cU_i (d' := d - 1) (As := []) (rest := []) dJ5_append_c97b9_18 lk_J5_83 rfl hf (fun w1 e1 => zc_J5_isLatin1_aae02 (by omega) e1) (by omega) rfl rfl (Nat.le_of_ble_eq_true rfl) fun y4 hf => ?_
  refine z_if_eq 37 dJ5_append_c97b9_21 (by decide) hf (fun hf => ?_) (fun hf => ?_)
  · cases hf
  · refine z_iload_n 3 dJ5_append_c97b9_24 rfl rfl ?_
    refine z_iload_n 0 dJ5_append_c97b9_25 rfl rfl ?_
    refine z_aload_n 2 dJ5_append_c97b9_26 rfl rfl ?_
    refine z_getA dJ5_append_c97b9_27 zc14 (by decide) wf_J5_15 hf fun x5 hf => ?_
    refine z_cS_i (d' := d - 1) (As := [.int p1, .int (x1 + y2.1), .ref x5]) (rest := []) dJ5_append_c97b9_30 lk_J5_248 hf (fun w1 e1 => zc_J6_getChars_ba4f3 (by omega) e1) (by omega) rfl rfl (Nat.le_of_ble_eq_true rfl) fun y6 hf => ?_
    refine z_pop dJ5_append_c97b9_33 rfl ?_
    refine z_goto 48 dJ5_append_c97b9_34 (by decide) ?_
    refine z_aload_n 2 dJ5_append_c97b9_48 rfl rfl ?_
    refine z_iload_n 0 dJ5_append_c97b9_49 rfl rfl ?_
    refine z_putB dJ5_append_c97b9_50 zc14 (by decide) wf_J5_79 (Or.inl rfl) rfl rfl hf fun h7 hf => ?_
    refine z_aload_n 2 dJ5_append_c97b9_53 rfl rfl ?_
    exact z_aret dJ5_append_c97b9_54 rfl (Or.inl ⟨_, rfl⟩) (Or.inr ⟨_, rfl⟩) (by cases hf; rfl)
set_option maxRecDepth 4000 in
theorem zc_J4_append_bf812 {Γ : zG} {N d : Nat} (hd : 15 ≤ d) {a : Nat} {p1 : Int32} {h : zH} {w : Nat × zH} (hf : f_J4_append_bf812 N a p1 h = some w) : Zm Γ m_J4_append_bf812 d [.ref a, .int p1] h (zoA w) := by
  unfold f_J4_append_bf812 at hf
  refine z_meth rfl (plainFor_of_name (by decide +kernel)) (by simp [lg_sl, Value.category, zml, m_J4_append_bf812]) ?_
  refine z_aload_n 0 dJ4_append_bf812_0 rfl rfl ?_
  refine z_iload_n 1 dJ4_append_bf812_1 rfl rfl ?_
  refine z_cSU_a (d' := d - 1) (As := [.int p1]) (rest := []) dJ4_append_bf812_2 lk_J4_53 rfl hf (fun w1 e1 => zc_J5_append_c97b9 (by omega) e1) (by omega) rfl rfl (Nat.le_of_ble_eq_true rfl) fun y1 hf => ?_
  refine z_pop dJ4_append_bf812_5 rfl ?_
  refine z_aload_n 0 dJ4_append_bf812_6 rfl rfl ?_
  exact z_aret dJ4_append_bf812_7 rfl (Or.inl ⟨_, rfl⟩) (Or.inr ⟨_, rfl⟩) (by cases hf; rfl)
set_option maxRecDepth 4000 in
theorem zc_J5_getValue_6d5f1 {Γ : zG} {N d : Nat} (hd : 10 ≤ d) {a : Nat} {h : zH} {w : Nat × zH} (hf : f_J5_getValue_6d5f1 N a h = some w) : Zm Γ m_J5_getValue_6d5f1 d [.ref a] h (zoA w) := by
  unfold f_J5_getValue_6d5f1 at hf
  refine z_meth rfl (plainFor_of_name (by decide +kernel)) (by simp [lg_sl, Value.category, zml, m_J5_getValue_6d5f1]) ?_
  refine z_aload_n 0 dJ5_getValue_6d5f1_0 rfl rfl ?_
  refine z_getA dJ5_getValue_6d5f1_1 zc14 (by decide) wf_J5_15 hf fun x1 hf => ?_
  exact z_aret dJ5_getValue_6d5f1_4 rfl (Or.inr ⟨_, rfl⟩) (Or.inr ⟨_, rfl⟩) (by cases hf; rfl)
set_option maxRecDepth 4000 in
theorem zc_J5_length_8abf5 {Γ : zG} {N d : Nat} (hd : 10 ≤ d) {a : Nat} {h : zH} {w : Int32 × zH} (hf : f_J5_length_8abf5 N a h = some w) : Zm Γ m_J5_length_8abf5 d [.ref a] h (zoI w) := by
  unfold f_J5_length_8abf5 at hf
  refine z_meth rfl (plainFor_of_name (by decide +kernel)) (by simp [lg_sl, Value.category, zml, m_J5_length_8abf5]) ?_
  refine z_aload_n 0 dJ5_length_8abf5_0 rfl rfl ?_
  refine z_getI dJ5_length_8abf5_1 zc14 (by decide) wf_J5_79 hf fun x1 hf => ?_
  exact z_iret dJ5_length_8abf5_4 rfl (by cases hf; rfl)
set_option maxRecDepth 4000 in
theorem zc_J4_length_8abf5 {Γ : zG} {N d : Nat} (hd : 11 ≤ d) {a : Nat} {h : zH} {w : Int32 × zH} (hf : f_J4_length_8abf5 N a h = some w) : Zm Γ m_J4_length_8abf5 d [.ref a] h (zoI w) := by
  unfold f_J4_length_8abf5 at hf
  refine z_meth rfl (plainFor_of_name (by decide +kernel)) (by simp [lg_sl, Value.category, zml, m_J4_length_8abf5]) ?_
  refine z_aload_n 0 dJ4_length_8abf5_0 rfl rfl ?_
  refine z_cSU_i (d' := d - 1) (As := []) (rest := []) dJ4_length_8abf5_1 lk_J4_343 rfl hf (fun w1 e1 => zc_J5_length_8abf5 (by omega) e1) (by omega) rfl rfl (Nat.le_of_ble_eq_true rfl) fun y1 hf => ?_
  exact z_iret dJ4_length_8abf5_4 rfl (by cases hf; rfl)
set_option maxRecDepth 4000 in
theorem zc_J7_checkLength_df160 {Γ : zG} {N d : Nat} (hd : 10 ≤ d) {p1 : Int32} {p2 : Int32} {h : zH} {w : zH} (hf : f_J7_checkLength_df160 N p1 p2 h = some w) : Zm Γ m_J7_checkLength_df160 d [.int p1, .int p2] h (zoV w) := by
  unfold f_J7_checkLength_df160 at hf
  refine z_meth rfl (plainFor_of_name (by decide +kernel)) (by simp [lg_sl, Value.category, zml, m_J7_checkLength_df160]) ?_
  refine z_iload_n 1 dJ7_checkLength_df160_0 rfl rfl ?_
  refine z_iload_n 0 dJ7_checkLength_df160_1 rfl rfl ?_
  refine z_icmp_ge 37 dJ7_checkLength_df160_2 (by decide) hf (fun hf => ?_) (fun hf => ?_)
  · exact z_vret dJ7_checkLength_df160_37 rfl (by cases hf; rfl)
  · cases hf
set_option maxRecDepth 4000 in
theorem zc_J7_copyOfRangeByte_39247 {Γ : zG} {N d : Nat} (hd : 11 ≤ d) {p1 : Nat} {p2 : Int32} {p3 : Int32} {h : zH} {w : Nat × zH} (hf : f_J7_copyOfRangeByte_39247 N p1 p2 p3 h = some w) : Zm Γ m_J7_copyOfRangeByte_39247 d [.ref p1, .int p2, .int p3] h (zoA w) := by
  unfold f_J7_copyOfRangeByte_39247 at hf
  refine z_meth rfl (plainFor_of_name (by decide +kernel)) (by simp [lg_sl, Value.category, zml, m_J7_copyOfRangeByte_39247]) ?_
  refine z_iload_n 1 dJ7_copyOfRangeByte_39247_0 rfl rfl ?_
  refine z_iload_n 2 dJ7_copyOfRangeByte_39247_1 rfl rfl ?_
  refine z_cS_v (d' := d - 1) (As := [.int p2, .int p3]) (rest := []) dJ7_copyOfRangeByte_39247_2 lk_J7_343 hf (fun w1 e1 => zc_J7_checkLength_df160 (by omega) e1) (by omega) rfl rfl (Nat.le_of_ble_eq_true rfl) fun y1 hf => ?_
  refine z_iload_n 2 dJ7_copyOfRangeByte_39247_5 rfl rfl ?_
  refine z_iload_n 1 dJ7_copyOfRangeByte_39247_6 rfl rfl ?_
  refine z_isub dJ7_copyOfRangeByte_39247_7 ?_
  refine z_istore_n [(3, .int (p3 - p2)), (0, .ref p1), (1, .int p2), (2, .int p3)] dJ7_copyOfRangeByte_39247_8 rfl (by decide) rfl ?_
  refine z_iload_n 0 dJ7_copyOfRangeByte_39247_9 rfl rfl ?_
  refine z_nwZ dJ7_copyOfRangeByte_39247_10 wa_Z hf fun y2 hf => ?_
  refine z_astore [(4, .ref y2.1), (3, .int (p3 - p2)), (0, .ref p1), (1, .int p2), (2, .int p3)] dJ7_copyOfRangeByte_39247_12 (by decide) rfl ?_
  refine z_aload_n 2 dJ7_copyOfRangeByte_39247_14 rfl rfl ?_
  refine z_iload_n 3 dJ7_copyOfRangeByte_39247_15 rfl rfl ?_
  refine z_aload 0 dJ7_copyOfRangeByte_39247_16 rfl ?_
  refine z_iconst (0 : Int32) dJ7_copyOfRangeByte_39247_18 (by decide) ?_
  refine z_aload_n 2 dJ7_copyOfRangeByte_39247_19 rfl rfl ?_
  refine z_alen dJ7_copyOfRangeByte_39247_20 hf fun x3 hf => ?_
  refine z_iload_n 3 dJ7_copyOfRangeByte_39247_21 rfl rfl ?_
  refine z_isub dJ7_copyOfRangeByte_39247_22 ?_
  refine z_iload_n 1 dJ7_copyOfRangeByte_39247_23 rfl rfl ?_
  refine z_cS_i (d' := d - 1) (As := [.int (x3 - p2), .int (p3 - p2)]) (rest := [.int (0 : Int32), .ref y2.1, .int p2, .ref p1]) dJ7_copyOfRangeByte_39247_24 lk_J7_304 hf (fun w1 e1 => zc_J9_min_7cf53 (by omega) e1) (by omega) rfl rfl (Nat.le_of_ble_eq_true rfl) fun y4 hf => ?_
  refine z_copyB dJ7_copyOfRangeByte_39247_27 wl_J7_150 wi_acn wi_acs wi_sys (by omega) (Nat.le_of_ble_eq_true rfl) hf fun h5 hf => ?_
  refine z_aload 0 dJ7_copyOfRangeByte_39247_30 rfl ?_
  exact z_aret dJ7_copyOfRangeByte_39247_32 rfl (Or.inr ⟨_, rfl⟩) (Or.inr ⟨_, rfl⟩) (by cases hf; rfl)
set_option maxRecDepth 4000 in
theorem zj_J7_copyOfRange_39247_10 {Γ : zG} {N d : Nat} {h0 : zH} (hd : 12 ≤ d) {v0 : Nat} {v1 : Int32} {v2 : Int32}  {h : zH} {w : Nat × zH} (hf : f_J7_copyOfRange_39247_j10 N v0 v1 v2  h = some w) : Z Γ m_J7_copyOfRange_39247 d h0 (zoA w) 10 [(0, .ref v0), (1, .int v1), (2, .int v2)] [] h := by
  unfold f_J7_copyOfRange_39247_j10 at hf
  refine z_aload_n 0 dJ7_copyOfRange_39247_10 rfl rfl ?_
  refine z_iload_n 1 dJ7_copyOfRange_39247_11 rfl rfl ?_
  refine z_iload_n 2 dJ7_copyOfRange_39247_12 rfl rfl ?_
  refine z_cS_a (d' := d - 1) (As := [.ref v0, .int v1, .int v2]) (rest := []) dJ7_copyOfRange_39247_13 lk_J7_339 hf (fun w1 e1 => zc_J7_copyOfRangeByte_39247 (by omega) e1) (by omega) rfl rfl (Nat.le_of_ble_eq_true rfl) fun y1 hf => ?_
  exact z_aret dJ7_copyOfRange_39247_16 rfl (Or.inr ⟨_, rfl⟩) (Or.inr ⟨_, rfl⟩) (by cases hf; rfl)
set_option maxRecDepth 4000 in
theorem zc_J7_copyOfRange_39247 {Γ : zG} {N d : Nat} (hd : 12 ≤ d) {p1 : Nat} {p2 : Int32} {p3 : Int32} {h : zH} {w : Nat × zH} (hf : f_J7_copyOfRange_39247 N p1 p2 p3 h = some w) : Zm Γ m_J7_copyOfRange_39247 d [.ref p1, .int p2, .int p3] h (zoA w) := by
  unfold f_J7_copyOfRange_39247 at hf
  refine z_meth rfl (plainFor_of_name (by decide +kernel)) (by simp [lg_sl, Value.category, zml, m_J7_copyOfRange_39247]) ?_
  refine z_iload_n 1 dJ7_copyOfRange_39247_0 rfl rfl ?_
  refine z_if_ne 10 dJ7_copyOfRange_39247_1 (by decide) hf (fun hf => ?_) (fun hf => ?_)
  · refine z_iload_n 2 dJ7_copyOfRange_39247_4 rfl rfl ?_
    refine z_aload_n 0 dJ7_copyOfRange_39247_5 rfl rfl ?_
    refine z_alen dJ7_copyOfRange_39247_6 hf fun x2 hf => ?_
    refine z_icmp_eq 17 dJ7_copyOfRange_39247_7 (by decide) hf (fun hf => ?_) (fun hf => ?_)
    · refine z_aload_n 0 dJ7_copyOfRange_39247_17 rfl rfl ?_
      refine z_cnB dJ7_copyOfRange_39247_18 wl_J7_310 wcl_B1 wcl_2 wcl_3 wcl_B4 wcl_B5 (by omega) (Nat.le_of_ble_eq_true rfl) hf fun y3 hf hy9 => ?_
      refine z_castA (k := 2) dJ7_copyOfRange_39247_21 (by decide) (Classical.choose_spec hy9) (fun hr => hr) wc_J7_311 ?_
      exact z_aret dJ7_copyOfRange_39247_24 rfl (Or.inr ⟨_, rfl⟩) (Or.inr ⟨_, rfl⟩) (by cases hf; rfl)
    · exact Z.sub [0, 1, 2] rfl (zj_J7_copyOfRange_39247_10 hd hf)
  · exact Z.sub [0, 1, 2] rfl (zj_J7_copyOfRange_39247_10 hd hf)
set_option maxRecDepth 4000 in
theorem zc_J0_init_db425 {Γ : zG} {N d : Nat} (hd : 13 ≤ d) {a : Nat} {p1 : Nat} {h : zH} {w : zH} (hf : f_J0_init_db425 N a p1 h = some w) : Zm Γ m_J0_init_db425 d [.ref a, .ref p1, .null] h (zoV w) := by
  unfold f_J0_init_db425 at hf
  refine z_meth rfl (plainFor_of_name (by decide +kernel)) (by simp [lg_sl, Value.category, zml, m_J0_init_db425]) ?_
  refine z_aload_n 0 dJ0_init_db425_0 rfl rfl ?_
  refine z_objInit dJ0_init_db425_1 wl_J0_1 wi_obj wi_objc (by omega) (Nat.le_of_ble_eq_true rfl) ?_
  refine z_aload_n 1 dJ0_init_db425_4 rfl rfl ?_
  refine z_cU_a (d' := d - 1) (As := []) (rest := []) dJ0_init_db425_5 lk_J0_552 rfl hf (fun w1 e1 => zc_J5_getValue_6d5f1 (by omega) e1) (by omega) rfl rfl (Nat.le_of_ble_eq_true rfl) fun y1 hf => ?_
  refine z_astore_n [(3, .ref y1.1), (0, .ref a), (1, .ref p1), (2, .null)] dJ0_init_db425_8 rfl (by decide) rfl ?_
  refine z_aload_n 2 dJ0_init_db425_9 rfl rfl ?_
  refine z_cU_i (d' := d - 1) (As := []) (rest := []) dJ0_init_db425_10 lk_J0_549 rfl hf (fun w1 e1 => zc_J4_length_8abf5 (by omega) e1) (by omega) rfl rfl (Nat.le_of_ble_eq_true rfl) fun y2 hf => ?_
  refine z_istore [(4, .int y2.1), (3, .ref y1.1), (0, .ref a), (1, .ref p1), (2, .null)] dJ0_init_db425_13 (by decide) rfl ?_
  refine z_aload_n 3 dJ0_init_db425_15 rfl rfl ?_
  refine z_cU_i (d' := d - 1) (As := []) (rest := []) dJ0_init_db425_16 lk_J0_1047 rfl hf (fun w1 e1 => zc_J5_isLatin1_aae02 (by omega) e1) (by omega) rfl rfl (Nat.le_of_ble_eq_true rfl) fun y3 hf => ?_
  refine z_if_eq 41 dJ0_init_db425_19 (by decide) hf (fun hf => ?_) (fun hf => ?_)
  · cases hf
  · refine z_aload_n 2 dJ0_init_db425_22 rfl rfl ?_
    refine z_iconst (0 : Int32) dJ0_init_db425_23 (by decide) ?_
    refine z_putB dJ0_init_db425_24 zc13 (by decide) wf_J0_15 (Or.inr ⟨rfl, rfl, rfl, rfl⟩) rfl rfl hf fun h4 hf => ?_
    refine z_aload_n 2 dJ0_init_db425_27 rfl rfl ?_
    refine z_aload_n 1 dJ0_init_db425_28 rfl rfl ?_
    refine z_iconst (0 : Int32) dJ0_init_db425_29 (by decide) ?_
    refine z_iload 0 dJ0_init_db425_30 rfl ?_
    refine z_cS_a (d' := d - 1) (As := [.ref y1.1, .int (0 : Int32), .int y2.1]) (rest := [.ref a]) dJ0_init_db425_32 lk_J0_54 hf (fun w1 e1 => zc_J7_copyOfRange_39247 (by omega) e1) (by omega) rfl rfl (Nat.le_of_ble_eq_true rfl) fun y5 hf => ?_
    refine z_putB dJ0_init_db425_35 zc13 (by decide) wf_J0_9 (Or.inr ⟨rfl, rfl, rfl, rfl⟩) rfl rfl hf fun h6 hf => ?_
    refine z_goto 97 dJ0_init_db425_38 (by decide) ?_
    exact z_vret dJ0_init_db425_97 rfl (by cases hf; rfl)
set_option maxRecDepth 4000 in
theorem zc_J0_init_81219 {Γ : zG} {N d : Nat} (hd : 14 ≤ d) {a : Nat} {p1 : Nat} {h : zH} {w : zH} (hf : f_J0_init_81219 N a p1 h = some w) : Zm Γ m_J0_init_81219 d [.ref a, .ref p1] h (zoV w) := by
  unfold f_J0_init_81219 at hf
  refine z_meth rfl (plainFor_of_name (by decide +kernel)) (by simp [lg_sl, Value.category, zml, m_J0_init_81219]) ?_
  refine z_aload_n 0 dJ0_init_81219_0 rfl rfl ?_
  refine z_aload_n 1 dJ0_init_81219_1 rfl rfl ?_
  refine z_null dJ0_init_81219_2 ?_
  refine z_cI_v (d' := d - 1) (As := [.ref p1, .null]) (rest := []) dJ0_init_81219_3 lk_J0_489 hf (fun w1 e1 => zc_J0_init_db425 (by omega) e1) (by omega) rfl rfl (Nat.le_of_ble_eq_true rfl) fun y1 hf => ?_
  exact z_vret dJ0_init_81219_6 rfl (by cases hf; rfl)
set_option maxRecDepth 4000 in
theorem zc_J4_toString_0e30d {Γ : zG} {N d : Nat} (hd : 15 ≤ d) {a : Nat} {h : zH} {w : Nat × zH} (hf : f_J4_toString_0e30d N a h = some w) : Zm Γ m_J4_toString_0e30d d [.ref a] h (zoA w) := by
  unfold f_J4_toString_0e30d at hf
  refine z_meth rfl (plainFor_of_name (by decide +kernel)) (by simp [lg_sl, Value.category, zml, m_J4_toString_0e30d]) ?_
  refine z_nwO dJ4_toString_0e30d_0 zc13 wc_J4_18 wn_J0 wi_J0 rfl zd13 hf fun y1 hf => ?_
  refine z_dup dJ4_toString_0e30d_3 rfl ?_
  refine z_aload_n 0 dJ4_toString_0e30d_4 rfl rfl ?_
  refine z_cI_v (d' := d - 1) (As := [.ref a]) (rest := [.ref y1.1]) dJ4_toString_0e30d_5 lk_J4_137 hf (fun w1 e1 => zc_J0_init_81219 (by omega) e1) (by omega) rfl rfl (Nat.le_of_ble_eq_true rfl) fun y2 hf => ?_
  exact z_aret dJ4_toString_0e30d_8 rfl (Or.inl ⟨_, rfl⟩) (Or.inr ⟨_, rfl⟩) (by cases hf; rfl)
set_option maxRecDepth 4000 in
theorem zj_X10_text_120 {Γ : zG} {N d : Nat} {h0 : zH} {rs : Nat → Int32 → zH → Option (Nat × zH)} {dr : Nat} (hrs : ∀ (a : Nat) (p1 : Int32) (h : zH) (w : Nat × zH), rs a p1 h = some w → Zm Γ m_X10_text dr [.ref a, .int p1] h (zoA w)) (hd : 29 ≤ d ∧ dr + 1 ≤ d) {v0 : Nat} {v1 : Int32} {v2 : Int32} {s0 : Nat} {s1 : Nat} {h : zH} {w : Nat × zH} (hf : f_X10_text_j120 N (zKa Γ) rs v0 v1 v2 s0 s1 h = some w) : Z Γ m_X10_text d h0 (zoA w) 120 [(0, .ref v0), (1, .int v1), (2, .int v2)] [.ref s1, .ref s0] h := by
  unfold f_X10_text_j120 at hf
  refine z_cV_a (d' := d - 1) (As := [.ref s1]) (rest := []) dX10_text_120 lk_X10_39 rfl hf (fun w1 e1 => zc_J4_append_15ec4 (by omega) e1) (by omega) rfl rfl (Nat.le_of_ble_eq_true rfl) fun y12 hf => ?_
  refine z_aload_n 0 dX10_text_123 rfl rfl ?_
  refine z_getA dX10_text_124 zc10 (by decide) wf_X10_31 hf fun x13 hf => ?_
  refine z_iload_n 2 dX10_text_127 rfl rfl ?_
  refine z_iconst (1 : Int32) dX10_text_128 (by decide) ?_
  refine z_iadd dX10_text_129 ?_
  refine z_cV_a (d' := dr) (As := [.int (v2 + (1 : Int32))]) (rest := [.ref y12.1]) dX10_text_130 lk_X10_56 rfl hf (fun w1 e1 => hrs _ _ _ _ e1) (by omega) rfl rfl (Nat.le_of_ble_eq_true rfl) fun y14 hf => ?_
  refine z_cV_a (d' := d - 1) (As := [.ref y14.1]) (rest := []) dX10_text_133 lk_X10_39 rfl hf (fun w1 e1 => zc_J4_append_15ec4 (by omega) e1) (by omega) rfl rfl (Nat.le_of_ble_eq_true rfl) fun y15 hf => ?_
  refine z_cV_a (d' := d - 1) (As := []) (rest := []) dX10_text_136 lk_X10_46 rfl hf (fun w1 e1 => zc_J4_toString_0e30d (by omega) e1) (by omega) rfl rfl (Nat.le_of_ble_eq_true rfl) fun y16 hf => ?_
  refine z_astore_n [(3, .ref y16.1), (0, .ref v0), (1, .int v1), (2, .int v2)] dX10_text_139 rfl (by decide) rfl ?_
  refine z_iload_n 3 dX10_text_140 rfl rfl ?_
  refine z_iload_n 2 dX10_text_141 rfl rfl ?_
  refine z_icmp_ge 172 dX10_text_142 (by decide) hf (fun hf => ?_) (fun hf => ?_)
  · refine z_aload_n 0 dX10_text_172 rfl rfl ?_
    exact z_aret dX10_text_173 rfl (Or.inl ⟨_, rfl⟩) (Or.inr ⟨_, rfl⟩) (by cases hf; rfl)
  · refine z_nwO dX10_text_145 zc14 wc_X10_34 wn_J4 wi_J4 rfl zd14 hf fun y17 hf => ?_
    refine z_dup dX10_text_148 rfl ?_
    refine z_cI_v (d' := d - 1) (As := []) (rest := [.ref y17.1]) dX10_text_149 lk_X10_36 hf (fun w1 e1 => zc_J4_init_da8c8 (by omega) e1) (by omega) rfl rfl (Nat.le_of_ble_eq_true rfl) fun y18 hf => ?_
    refine z_ldcN 5 18 (by decide) (by decide) rfl rfl dX10_text_152 ?_
    refine z_cV_a (d' := d - 1) (As := [.ref ((zKa Γ) 18)]) (rest := []) dX10_text_154 lk_X10_39 rfl hf (fun w1 e1 => zc_J4_append_15ec4 (by omega) e1) (by omega) rfl rfl (Nat.le_of_ble_eq_true rfl) fun y19 hf => ?_
    refine z_aload_n 0 dX10_text_157 rfl rfl ?_
    refine z_cV_a (d' := d - 1) (As := [.ref y16.1]) (rest := []) dX10_text_158 lk_X10_39 rfl hf (fun w1 e1 => zc_J4_append_15ec4 (by omega) e1) (by omega) rfl rfl (Nat.le_of_ble_eq_true rfl) fun y20 hf => ?_
    refine z_ldcN 6 19 (by decide) (by decide) rfl rfl dX10_text_161 ?_
    refine z_cV_a (d' := d - 1) (As := [.ref ((zKa Γ) 19)]) (rest := []) dX10_text_163 lk_X10_39 rfl hf (fun w1 e1 => zc_J4_append_15ec4 (by omega) e1) (by omega) rfl rfl (Nat.le_of_ble_eq_true rfl) fun y21 hf => ?_
    refine z_cV_a (d' := d - 1) (As := []) (rest := []) dX10_text_166 lk_X10_46 rfl hf (fun w1 e1 => zc_J4_toString_0e30d (by omega) e1) (by omega) rfl rfl (Nat.le_of_ble_eq_true rfl) fun y22 hf => ?_
    refine z_goto 173 dX10_text_169 (by decide) ?_
    exact z_aret dX10_text_173 rfl (Or.inl ⟨_, rfl⟩) (Or.inr ⟨_, rfl⟩) (by cases hf; rfl)
set_option maxRecDepth 4000 in
theorem zj_X10_text_60 {Γ : zG} {N d : Nat} {h0 : zH} {rs : Nat → Int32 → zH → Option (Nat × zH)} {dr : Nat} (hrs : ∀ (a : Nat) (p1 : Int32) (h : zH) (w : Nat × zH), rs a p1 h = some w → Zm Γ m_X10_text dr [.ref a, .int p1] h (zoA w)) (hd : 29 ≤ d ∧ dr + 1 ≤ d) {v0 : Nat} {v1 : Int32} {s0 : Int32} {h : zH} {w : Nat × zH} (hf : f_X10_text_j60 N (zKa Γ) rs v0 v1 s0 h = some w) : Z Γ m_X10_text d h0 (zoA w) 60 [(0, .ref v0), (1, .int v1)] [.int s0] h := by
  unfold f_X10_text_j60 at hf
  refine z_istore_n [(2, .int s0), (0, .ref v0), (1, .int v1)] dX10_text_60 rfl (by decide) rfl ?_
  refine z_nwO dX10_text_61 zc14 wc_X10_34 wn_J4 wi_J4 rfl zd14 hf fun y4 hf => ?_
  refine z_dup dX10_text_64 rfl ?_
  refine z_cI_v (d' := d - 1) (As := []) (rest := [.ref y4.1]) dX10_text_65 lk_X10_36 hf (fun w1 e1 => zc_J4_init_da8c8 (by omega) e1) (by omega) rfl rfl (Nat.le_of_ble_eq_true rfl) fun y5 hf => ?_
  refine z_aload_n 1 dX10_text_68 rfl rfl ?_
  refine z_getA dX10_text_69 zc10 (by decide) wf_X10_27 hf fun x6 hf => ?_
  refine z_iload_n 0 dX10_text_72 rfl rfl ?_
  refine z_cV_a (d' := dr) (As := [.int s0]) (rest := [.ref y4.1]) dX10_text_73 lk_X10_56 rfl hf (fun w1 e1 => hrs _ _ _ _ e1) (by omega) rfl rfl (Nat.le_of_ble_eq_true rfl) fun y7 hf => ?_
  refine z_cV_a (d' := d - 1) (As := [.ref y7.1]) (rest := []) dX10_text_76 lk_X10_39 rfl hf (fun w1 e1 => zc_J4_append_15ec4 (by omega) e1) (by omega) rfl rfl (Nat.le_of_ble_eq_true rfl) fun y8 hf => ?_
  refine z_aload_n 1 dX10_text_79 rfl rfl ?_
  refine z_getI dX10_text_80 zc10 (by decide) wf_X10_16 hf fun x9 hf => ?_
  refine z_iconst (2 : Int32) dX10_text_83 (by decide) ?_
  refine z_icmp_ne 92 dX10_text_84 (by decide) hf (fun hf => ?_) (fun hf => ?_)
  · refine z_ldcN 1 14 (by decide) (by decide) rfl rfl dX10_text_87 ?_
    refine z_goto 120 dX10_text_89 (by decide) ?_
    exact Z.sub [1, 2, 0] rfl (zj_X10_text_120 hrs hd hf)
  · refine z_aload_n 1 dX10_text_92 rfl rfl ?_
    refine z_getI dX10_text_93 zc10 (by decide) wf_X10_16 hf fun x10 hf => ?_
    refine z_iconst (3 : Int32) dX10_text_96 (by decide) ?_
    refine z_icmp_ne 105 dX10_text_97 (by decide) hf (fun hf => ?_) (fun hf => ?_)
    · refine z_ldcN 2 15 (by decide) (by decide) rfl rfl dX10_text_100 ?_
      refine z_goto 120 dX10_text_102 (by decide) ?_
      exact Z.sub [1, 2, 0] rfl (zj_X10_text_120 hrs hd hf)
    · refine z_aload_n 1 dX10_text_105 rfl rfl ?_
      refine z_getI dX10_text_106 zc10 (by decide) wf_X10_16 hf fun x11 hf => ?_
      refine z_iconst (4 : Int32) dX10_text_109 (by decide) ?_
      refine z_icmp_ne 118 dX10_text_110 (by decide) hf (fun hf => ?_) (fun hf => ?_)
      · refine z_ldcN 3 16 (by decide) (by decide) rfl rfl dX10_text_113 ?_
        refine z_goto 120 dX10_text_115 (by decide) ?_
        exact Z.sub [1, 2, 0] rfl (zj_X10_text_120 hrs hd hf)
      · refine z_ldcN 4 17 (by decide) (by decide) rfl rfl dX10_text_118 ?_
        exact Z.sub [1, 2, 0] rfl (zj_X10_text_120 hrs hd hf)
set_option maxRecDepth 4000 in
theorem zc_X10_text {Γ : zG} {N d : Nat} {rs : Nat → Int32 → zH → Option (Nat × zH)} {dr : Nat} (hrs : ∀ (a : Nat) (p1 : Int32) (h : zH) (w : Nat × zH), rs a p1 h = some w → Zm Γ m_X10_text dr [.ref a, .int p1] h (zoA w)) (hd : 29 ≤ d ∧ dr + 1 ≤ d) {a : Nat} {p1 : Int32} {h : zH} {w : Nat × zH} (hf : f_X10_text N (zKa Γ) rs a p1 h = some w) : Zm Γ m_X10_text d [.ref a, .int p1] h (zoA w) := by
  unfold f_X10_text at hf
  refine z_meth rfl (plainFor_of_name wpl_X10) (by simp [lg_sl, Value.category, zml, m_X10_text]) ?_
  refine z_aload_n 0 dX10_text_0 rfl rfl ?_
  refine z_getI dX10_text_1 zc10 (by decide) wf_X10_16 hf fun x1 hf => ?_
  refine z_if_ne 30 dX10_text_4 (by decide) hf (fun hf => ?_) (fun hf => ?_)
  · refine z_nwO dX10_text_7 zc14 wc_X10_34 wn_J4 wi_J4 rfl zd14 hf fun y25 hf => ?_
    refine z_dup dX10_text_10 rfl ?_
    refine z_cI_v (d' := d - 1) (As := []) (rest := [.ref y25.1]) dX10_text_11 lk_X10_36 hf (fun w1 e1 => zc_J4_init_da8c8 (by omega) e1) (by omega) rfl rfl (Nat.le_of_ble_eq_true rfl) fun y26 hf => ?_
    refine z_ldcN 0 13 (by decide) (by decide) rfl rfl dX10_text_14 ?_
    refine z_cV_a (d' := d - 1) (As := [.ref ((zKa Γ) 13)]) (rest := []) dX10_text_16 lk_X10_39 rfl hf (fun w1 e1 => zc_J4_append_15ec4 (by omega) e1) (by omega) rfl rfl (Nat.le_of_ble_eq_true rfl) fun y27 hf => ?_
    refine z_aload_n 0 dX10_text_19 rfl rfl ?_
    refine z_getI dX10_text_20 zc10 (by decide) wf_X10_20 hf fun x28 hf => ?_
    refine z_cV_a (d' := d - 1) (As := [.int x28]) (rest := []) dX10_text_23 lk_X10_43 rfl hf (fun w1 e1 => zc_J4_append_bf812 (by omega) e1) (by omega) rfl rfl (Nat.le_of_ble_eq_true rfl) fun y29 hf => ?_
    refine z_cV_a (d' := d - 1) (As := []) (rest := []) dX10_text_26 lk_X10_46 rfl hf (fun w1 e1 => zc_J4_toString_0e30d (by omega) e1) (by omega) rfl rfl (Nat.le_of_ble_eq_true rfl) fun y30 hf => ?_
    exact z_aret dX10_text_29 rfl (Or.inl ⟨_, rfl⟩) (Or.inr ⟨_, rfl⟩) (by cases hf; rfl)
  · refine z_aload_n 0 dX10_text_30 rfl rfl ?_
    refine z_getI dX10_text_31 zc10 (by decide) wf_X10_16 hf fun x2 hf => ?_
    refine z_iconst (1 : Int32) dX10_text_34 (by decide) ?_
    refine z_icmp_ne 47 dX10_text_35 (by decide) hf (fun hf => ?_) (fun hf => ?_)
    · refine z_gsV dX10_text_38 wnv ?_
      refine z_aload_n 0 dX10_text_41 rfl rfl ?_
      refine z_getI dX10_text_42 zc10 (by decide) wf_X10_20 hf fun x23 hf => ?_
      refine z_aaV dX10_text_45 hf fun x24 hf => ?_
      exact z_aret dX10_text_46 rfl (Or.inl ⟨_, rfl⟩) (Or.inr ⟨_, rfl⟩) (by cases hf; rfl)
    · refine z_aload_n 0 dX10_text_47 rfl rfl ?_
      refine z_getI dX10_text_48 zc10 (by decide) wf_X10_16 hf fun x3 hf => ?_
      refine z_iconst (4 : Int32) dX10_text_51 (by decide) ?_
      refine z_icmp_ge 59 dX10_text_52 (by decide) hf (fun hf => ?_) (fun hf => ?_)
      · refine z_iconst (2 : Int32) dX10_text_59 (by decide) ?_
        exact Z.sub [0, 1] rfl (zj_X10_text_60 hrs hd hf)
      · refine z_iconst (1 : Int32) dX10_text_55 (by decide) ?_
        refine z_goto 60 dX10_text_56 (by decide) ?_
        exact Z.sub [0, 1] rfl (zj_X10_text_60 hrs hd hf)
theorem zc_X10_textN {Γ : zG} {N n d : Nat} (hd : 60 + 4 * n ≤ d) {a : Nat} {p1 : Int32} {h : zH} {w : Nat × zH} (hf : f_X10_textN N (zKa Γ) n a p1 h = some w) : Zm Γ m_X10_text d [.ref a, .int p1] h (zoA w) := by
  induction n generalizing d a p1 h w with
  | zero => cases hf
  | succ n ih =>
    rw [f_X10_textN] at hf
    exact zc_X10_text (dr := d - 4) (fun a p1 h w e => ih (by omega) e) ⟨by omega, by omega⟩ hf
set_option maxRecDepth 4000 in
theorem zc_X0_start {Γ : zG} {N d : Nat} (hd : 12 ≤ d) {a : Nat} {h : zH} {w : zH} (hf : f_X0_start N a h = some w) : Zm Γ m_X0_start d [.ref a] h (zoV w) := by
  unfold f_X0_start at hf
  refine z_meth rfl (plainFor_of_name wpl_X0) (by simp [lg_sl, Value.category, zml, m_X0_start]) ?_
  refine z_aload_n 0 dX0_start_0 rfl rfl ?_
  refine z_iconst (2 : Int32) dX0_start_1 (by decide) ?_
  refine z_putB dX0_start_2 zc0 (by decide) wf_X0_52 (Or.inl rfl) rfl rfl hf fun h1 hf => ?_
  refine z_aload_n 0 dX0_start_5 rfl rfl ?_
  refine z_iconst (0 : Int32) dX0_start_6 (by decide) ?_
  refine z_putB dX0_start_7 zc0 (by decide) wf_X0_56 (Or.inl rfl) rfl rfl hf fun h2 hf => ?_
  refine z_aload_n 0 dX0_start_10 rfl rfl ?_
  refine z_getA dX0_start_11 zc0 (by decide) wf_X0_27 hf fun x3 hf => ?_
  refine z_cV_v (d' := d - 1) (As := []) (rest := []) dX0_start_14 lk_X0_59 rfl hf (fun w1 e1 => zc_X6_clear (by omega) e1) (by omega) rfl rfl (Nat.le_of_ble_eq_true rfl) fun y4 hf => ?_
  refine z_aload_n 0 dX0_start_17 rfl rfl ?_
  refine z_aload_n 0 dX0_start_18 rfl rfl ?_
  refine z_getA dX0_start_19 zc0 (by decide) wf_X0_45 hf fun x5 hf => ?_
  refine z_putB dX0_start_22 zc0 (by decide) wf_X0_49 (Or.inl rfl) rfl rfl hf fun h6 hf => ?_
  refine z_aload_n 0 dX0_start_25 rfl rfl ?_
  refine z_iconst (0 : Int32) dX0_start_26 (by decide) ?_
  refine z_putB dX0_start_27 zc0 (by decide) wf_X0_62 (Or.inl rfl) rfl rfl hf fun h7 hf => ?_
  refine z_aload_n 0 dX0_start_30 rfl rfl ?_
  refine z_iconst (0 : Int32) dX0_start_31 (by decide) ?_
  refine z_putB dX0_start_32 zc0 (by decide) wf_X0_65 (Or.inl rfl) rfl rfl hf fun h8 hf => ?_
  refine z_aload_n 0 dX0_start_35 rfl rfl ?_
  refine z_iconst (0 : Int32) dX0_start_36 (by decide) ?_
  refine z_putB dX0_start_37 zc0 (by decide) wf_X0_68 (Or.inl rfl) rfl rfl hf fun h9 hf => ?_
  refine z_aload_n 0 dX0_start_40 rfl rfl ?_
  refine z_cV_v (d' := d - 1) (As := []) (rest := []) dX0_start_41 lk_X0_71 rfl hf (fun w1 e1 => zc_X0_clearLot (by omega) e1) (by omega) rfl rfl (Nat.le_of_ble_eq_true rfl) fun y10 hf => ?_
  exact z_vret dX0_start_44 rfl (by cases hf; rfl)
set_option maxRecDepth 4000 in
theorem zc_X7_isDigit {Γ : zG} {N d : Nat} (hd : 10 ≤ d) {p1 : Int32} {h : zH} {w : Int32 × zH} (hf : f_X7_isDigit N p1 h = some w) : Zm Γ m_X7_isDigit d [.int p1] h (zoI w) := by
  unfold f_X7_isDigit at hf
  refine z_meth rfl (plainFor_of_name wpl_X7) (by simp [lg_sl, Value.category, zml, m_X7_isDigit]) ?_
  refine z_iload_n 0 dX7_isDigit_0 rfl rfl ?_
  refine z_bipush (48 : Int32) dX7_isDigit_1 (by decide) ?_
  refine z_icmp_lt 16 dX7_isDigit_3 (by decide) hf (fun hf => ?_) (fun hf => ?_)
  · refine z_iconst (0 : Int32) dX7_isDigit_16 (by decide) ?_
    exact z_zret dX7_isDigit_17 rfl (Or.inl rfl) (by cases hf; rfl)
  · refine z_iload_n 0 dX7_isDigit_6 rfl rfl ?_
    refine z_bipush (57 : Int32) dX7_isDigit_7 (by decide) ?_
    refine z_icmp_gt 16 dX7_isDigit_9 (by decide) hf (fun hf => ?_) (fun hf => ?_)
    · refine z_iconst (0 : Int32) dX7_isDigit_16 (by decide) ?_
      exact z_zret dX7_isDigit_17 rfl (Or.inl rfl) (by cases hf; rfl)
    · refine z_iconst (1 : Int32) dX7_isDigit_12 (by decide) ?_
      refine z_goto 17 dX7_isDigit_13 (by decide) ?_
      exact z_zret dX7_isDigit_17 rfl (Or.inr rfl) (by cases hf; rfl)
set_option maxRecDepth 4000 in
theorem zc_X7_isLetter {Γ : zG} {N d : Nat} (hd : 10 ≤ d) {p1 : Int32} {h : zH} {w : Int32 × zH} (hf : f_X7_isLetter N p1 h = some w) : Zm Γ m_X7_isLetter d [.int p1] h (zoI w) := by
  unfold f_X7_isLetter at hf
  refine z_meth rfl (plainFor_of_name wpl_X7) (by simp [lg_sl, Value.category, zml, m_X7_isLetter]) ?_
  refine z_iload_n 0 dX7_isLetter_0 rfl rfl ?_
  refine z_bipush (97 : Int32) dX7_isLetter_1 (by decide) ?_
  refine z_icmp_lt 16 dX7_isLetter_3 (by decide) hf (fun hf => ?_) (fun hf => ?_)
  · refine z_iconst (0 : Int32) dX7_isLetter_16 (by decide) ?_
    exact z_zret dX7_isLetter_17 rfl (Or.inl rfl) (by cases hf; rfl)
  · refine z_iload_n 0 dX7_isLetter_6 rfl rfl ?_
    refine z_bipush (122 : Int32) dX7_isLetter_7 (by decide) ?_
    refine z_icmp_gt 16 dX7_isLetter_9 (by decide) hf (fun hf => ?_) (fun hf => ?_)
    · refine z_iconst (0 : Int32) dX7_isLetter_16 (by decide) ?_
      exact z_zret dX7_isLetter_17 rfl (Or.inl rfl) (by cases hf; rfl)
    · refine z_iconst (1 : Int32) dX7_isLetter_12 (by decide) ?_
      refine z_goto 17 dX7_isLetter_13 (by decide) ?_
      exact z_zret dX7_isLetter_17 rfl (Or.inr rfl) (by cases hf; rfl)
set_option maxRecDepth 4000 in
theorem zl_X7_advance_5 {Γ : zG} {N d : Nat} {h0 : zH} (hd : 11 ≤ d) {v0 : Nat} {k1 : Int32 → zH → Option (zH)} {w : zH}  (hk1 : ∀ (v1 : Int32) (h : zH), k1 v1 h = some w → Z Γ m_X7_advance d h0 (zoV w) 37 [(0, .ref v0), (1, .int v1)] [] h) : ∀ (n : Nat) (v1 : Int32) (h : zH), f_X7_advance_l5 N v0 k1 n v1 h = some w → Z Γ m_X7_advance d h0 (zoV w) 5 [(0, .ref v0), (1, .int v1)] [] h := by
  intro n
  induction n with
  | zero => intro v1 h hf; cases hf
  | succ n ih =>
    intro v1 h hf
    rw [f_X7_advance_l5] at hf
    refine z_iload_n 1 dX7_advance_5 rfl rfl ?_
    refine z_aload_n 0 dX7_advance_6 rfl rfl ?_
    refine z_getI dX7_advance_7 zc7 (by decide) wf_X7_56 hf fun x2 hf => ?_
    refine z_icmp_ge 37 dX7_advance_10 (by decide) hf (fun hf => ?_) (fun hf => ?_)
    · exact Z.sub [0, 1] rfl (hk1 v1 h hf)
    · refine z_iload_n 1 dX7_advance_13 rfl rfl ?_
      refine z_sipush (700 : Int32) dX7_advance_14 (by decide) ?_
      refine z_icmp_ge 37 dX7_advance_17 (by decide) hf (fun hf => ?_) (fun hf => ?_)
      · exact Z.sub [0, 1] rfl (hk1 v1 h hf)
      · refine z_aload_n 0 dX7_advance_20 rfl rfl ?_
        refine z_getA dX7_advance_21 zc7 (by decide) wf_X7_15 hf fun x3 hf => ?_
        refine z_iload_n 1 dX7_advance_24 rfl rfl ?_
        refine z_iaload dX7_advance_25 hf fun x4 hf => ?_
        refine z_bipush (32 : Int32) dX7_advance_26 (by decide) ?_
        refine z_icmp_ne 37 dX7_advance_28 (by decide) hf (fun hf => ?_) (fun hf => ?_)
        · refine z_iinc (v1 + (1 : Int32)) 1 [(1, .int (v1 + (1 : Int32))), (0, .ref v0)] dX7_advance_31 rfl rfl (by decide) rfl ?_
          refine z_goto 5 dX7_advance_34 (by decide) ?_
          exact Z.sub [1, 0] rfl (ih (v1 + (1 : Int32)) h hf)
        · exact Z.sub [0, 1] rfl (hk1 v1 h hf)
set_option maxRecDepth 4000 in
theorem zj_X7_advance_67 {Γ : zG} {N d : Nat} {h0 : zH} (hd : 11 ≤ d) {v0 : Nat} {v1 : Int32}  {h : zH} {w : zH} (hf : f_X7_advance_j67 N v0 v1  h = some w) : Z Γ m_X7_advance d h0 (zoV w) 67 [(0, .ref v0), (1, .int v1)] [] h := by
  unfold f_X7_advance_j67 at hf
  refine z_aload_n 0 dX7_advance_67 rfl rfl ?_
  refine z_iload_n 1 dX7_advance_68 rfl rfl ?_
  refine z_putB dX7_advance_69 zc7 (by decide) wf_X7_59 (Or.inl rfl) rfl rfl hf fun h11 hf => ?_
  exact z_vret dX7_advance_72 rfl (by cases hf; rfl)
set_option maxRecDepth 4000 in
theorem zl_X7_advance_140 {Γ : zG} {N d : Nat} {h0 : zH} (hd : 11 ≤ d) {v0 : Nat} {v2 : Int32} {k1 : Int32 → zH → Option (zH)} {w : zH}  (hk1 : ∀ (v1 : Int32) (h : zH), k1 v1 h = some w → Z Γ m_X7_advance d h0 (zoV w) 226 [(0, .ref v0), (1, .int v1)] [] h) : ∀ (n : Nat) (v1 : Int32) (h : zH), f_X7_advance_l140 N v0 v2 k1 n v1 h = some w → Z Γ m_X7_advance d h0 (zoV w) 140 [(0, .ref v0), (1, .int v1), (2, .int v2)] [] h := by
  intro n
  induction n with
  | zero => intro v1 h hf; cases hf
  | succ n ih =>
    intro v1 h hf
    rw [f_X7_advance_l140] at hf
    refine z_iload_n 1 dX7_advance_140 rfl rfl ?_
    refine z_aload_n 0 dX7_advance_141 rfl rfl ?_
    refine z_getI dX7_advance_142 zc7 (by decide) wf_X7_56 hf fun x21 hf => ?_
    refine z_icmp_ge 226 dX7_advance_145 (by decide) hf (fun hf => ?_) (fun hf => ?_)
    · exact Z.sub [0, 1] rfl (hk1 v1 h hf)
    · refine z_iload_n 1 dX7_advance_148 rfl rfl ?_
      refine z_sipush (700 : Int32) dX7_advance_149 (by decide) ?_
      refine z_icmp_ge 226 dX7_advance_152 (by decide) hf (fun hf => ?_) (fun hf => ?_)
      · exact Z.sub [0, 1] rfl (hk1 v1 h hf)
      · refine z_iload_n 2 dX7_advance_155 rfl rfl ?_
        refine zjn_elim (P := fun (j186 : Int32 → zH → Option (zH)) => ∀ (v1 : Int32) (h : zH), j186 v1 h = some w → Z Γ m_X7_advance d h0 (zoV w) 186 [(0, .ref v0), (1, .int v1), (2, .int v2)] [] h) hf (fun v1 h hf => ?_) (fun j186 hj186 hf => ?_)
        · refine z_aload_n 0 dX7_advance_186 rfl rfl ?_
          refine z_iload_n 2 dX7_advance_187 rfl rfl ?_
          refine zjn_elim (P := fun (j217 : Int32 → Nat → Int32 → zH → Option (zH)) => ∀ (v1 : Int32) (s0 : Nat) (s1 : Int32) (h : zH), j217 v1 s0 s1 h = some w → Z Γ m_X7_advance d h0 (zoV w) 217 [(0, .ref v0), (1, .int v1), (2, .int v2)] [.int s1, .ref s0] h) hf (fun v1 s0 s1 h hf => ?_) (fun j217 hj217 hf => ?_)
          · refine z_putB dX7_advance_217 zc7 (by decide) wf_X7_88 (Or.inl rfl) rfl rfl hf fun h32 hf => ?_
            refine z_iinc (v1 + (1 : Int32)) 1 [(1, .int (v1 + (1 : Int32))), (0, .ref v0), (2, .int v2)] dX7_advance_220 rfl rfl (by decide) rfl ?_
            refine z_goto 140 dX7_advance_223 (by decide) ?_
            exact Z.sub [1, 0, 2] rfl (ih (v1 + (1 : Int32)) h32 hf)
          · refine z_if_eq 216 dX7_advance_188 (by decide) hf (fun hf => ?_) (fun hf => ?_)
            · refine z_iconst (0 : Int32) dX7_advance_216 (by decide) ?_
              exact Z.sub [0, 1, 2] rfl (hj217 v1 v0 (0 : Int32) h hf)
            · refine z_ldc (1000000 : Int32) dX7_advance_191 wk_X7_98 ?_
              refine z_aload_n 0 dX7_advance_193 rfl rfl ?_
              refine z_getI dX7_advance_194 zc7 (by decide) wf_X7_88 hf fun x28 hf => ?_
              refine z_bipush (10 : Int32) dX7_advance_197 (by decide) ?_
              refine z_imul dX7_advance_199 ?_
              refine z_aload_n 0 dX7_advance_200 rfl rfl ?_
              refine z_getA dX7_advance_201 zc7 (by decide) wf_X7_15 hf fun x29 hf => ?_
              refine z_iload_n 1 dX7_advance_204 rfl rfl ?_
              refine z_iaload dX7_advance_205 hf fun x30 hf => ?_
              refine z_iadd dX7_advance_206 ?_
              refine z_bipush (48 : Int32) dX7_advance_207 (by decide) ?_
              refine z_isub dX7_advance_209 ?_
              refine z_cS_i (d' := d - 1) (As := [.int (1000000 : Int32), .int (((x28 * (10 : Int32)) + x30) - (48 : Int32))]) (rest := [.ref v0]) dX7_advance_210 lk_X7_47 hf (fun w1 e1 => zc_J9_min_7cf53 (by omega) e1) (by omega) rfl rfl (Nat.le_of_ble_eq_true rfl) fun y31 hf => ?_
              refine z_goto 217 dX7_advance_213 (by decide) ?_
              exact Z.sub [0, 1, 2] rfl (hj217 v1 v0 y31.1 y31.2 hf)
        · refine z_if_eq 174 dX7_advance_156 (by decide) hf (fun hf => ?_) (fun hf => ?_)
          · refine z_aload_n 0 dX7_advance_174 rfl rfl ?_
            refine z_getA dX7_advance_175 zc7 (by decide) wf_X7_15 hf fun x22 hf => ?_
            refine z_iload_n 1 dX7_advance_178 rfl rfl ?_
            refine z_iaload dX7_advance_179 hf fun x23 hf => ?_
            refine z_cS_i (d' := d - 1) (As := [.int x23]) (rest := []) dX7_advance_180 lk_X7_95 hf (fun w1 e1 => zc_X7_isLetter (by omega) e1) (by omega) rfl rfl (Nat.le_of_ble_eq_true rfl) fun y24 hf => ?_
            refine z_if_eq 226 dX7_advance_183 (by decide) hf (fun hf => ?_) (fun hf => ?_)
            · exact Z.sub [0, 1] rfl (hk1 v1 y24.2 hf)
            · exact Z.sub [0, 1, 2] rfl (hj186 v1 y24.2 hf)
          · refine z_aload_n 0 dX7_advance_159 rfl rfl ?_
            refine z_getA dX7_advance_160 zc7 (by decide) wf_X7_15 hf fun x25 hf => ?_
            refine z_iload_n 1 dX7_advance_163 rfl rfl ?_
            refine z_iaload dX7_advance_164 hf fun x26 hf => ?_
            refine z_cS_i (d' := d - 1) (As := [.int x26]) (rest := []) dX7_advance_165 lk_X7_91 hf (fun w1 e1 => zc_X7_isDigit (by omega) e1) (by omega) rfl rfl (Nat.le_of_ble_eq_true rfl) fun y27 hf => ?_
            refine z_if_eq 226 dX7_advance_168 (by decide) hf (fun hf => ?_) (fun hf => ?_)
            · exact Z.sub [0, 1] rfl (hk1 v1 y27.2 hf)
            · refine z_goto 186 dX7_advance_171 (by decide) ?_
              exact Z.sub [0, 1, 2] rfl (hj186 v1 y27.2 hf)
set_option maxRecDepth 4000 in
theorem zj_X7_advance_139 {Γ : zG} {N d : Nat} {h0 : zH} (hd : 11 ≤ d) {v0 : Nat} {v1 : Int32} {s0 : Int32} {h : zH} {w : zH} (hf : f_X7_advance_j139 N v0 v1 s0 h = some w) : Z Γ m_X7_advance d h0 (zoV w) 139 [(0, .ref v0), (1, .int v1)] [.int s0] h := by
  unfold f_X7_advance_j139 at hf
  refine z_istore_n [(2, .int s0), (0, .ref v0), (1, .int v1)] dX7_advance_139 rfl (by decide) rfl ?_
  refine Z.sub [1, 2, 0] rfl (zl_X7_advance_140 hd (fun u33 h34 hf => ?_) N v1 h hf)
  · refine z_aload_n 0 dX7_advance_226 rfl rfl ?_
    refine z_iload_n 1 dX7_advance_227 rfl rfl ?_
    refine z_putB dX7_advance_228 zc7 (by decide) wf_X7_59 (Or.inl rfl) rfl rfl hf fun h35 hf => ?_
    exact z_vret dX7_advance_231 rfl (by cases hf; rfl)
set_option maxRecDepth 4000 in
theorem zj_X7_advance_107 {Γ : zG} {N d : Nat} {h0 : zH} (hd : 11 ≤ d) {v0 : Nat} {v1 : Int32} {s0 : Nat} {s1 : Int32} {h : zH} {w : zH} (hf : f_X7_advance_j107 N v0 v1 s0 s1 h = some w) : Z Γ m_X7_advance d h0 (zoV w) 107 [(0, .ref v0), (1, .int v1)] [.int s1, .ref s0] h := by
  unfold f_X7_advance_j107 at hf
  refine z_putB dX7_advance_107 zc7 (by decide) wf_X7_79 (Or.inl rfl) rfl rfl hf fun h18 hf => ?_
  refine z_aload_n 0 dX7_advance_110 rfl rfl ?_
  refine z_getI dX7_advance_111 zc7 (by decide) wf_X7_79 hf fun x19 hf => ?_
  refine z_iconst (3 : Int32) dX7_advance_114 (by decide) ?_
  refine z_icmp_ne 126 dX7_advance_115 (by decide) hf (fun hf => ?_) (fun hf => ?_)
  · refine z_aload_n 0 dX7_advance_118 rfl rfl ?_
    refine z_iload_n 1 dX7_advance_119 rfl rfl ?_
    refine z_iconst (1 : Int32) dX7_advance_120 (by decide) ?_
    refine z_iadd dX7_advance_121 ?_
    refine z_putB dX7_advance_122 zc7 (by decide) wf_X7_59 (Or.inl rfl) rfl rfl hf fun h36 hf => ?_
    exact z_vret dX7_advance_125 rfl (by cases hf; rfl)
  · refine z_aload_n 0 dX7_advance_126 rfl rfl ?_
    refine z_getI dX7_advance_127 zc7 (by decide) wf_X7_79 hf fun x20 hf => ?_
    refine z_iconst (1 : Int32) dX7_advance_130 (by decide) ?_
    refine z_icmp_ne 138 dX7_advance_131 (by decide) hf (fun hf => ?_) (fun hf => ?_)
    · refine z_iconst (1 : Int32) dX7_advance_134 (by decide) ?_
      refine z_goto 139 dX7_advance_135 (by decide) ?_
      exact Z.sub [0, 1] rfl (zj_X7_advance_139 hd hf)
    · refine z_iconst (0 : Int32) dX7_advance_138 (by decide) ?_
      exact Z.sub [0, 1] rfl (zj_X7_advance_139 hd hf)
set_option maxRecDepth 4000 in
theorem zc_X7_advance {Γ : zG} {N d : Nat} (hd : 11 ≤ d) {a : Nat} {h : zH} {w : zH} (hf : f_X7_advance N a h = some w) : Zm Γ m_X7_advance d [.ref a] h (zoV w) := by
  unfold f_X7_advance at hf
  refine z_meth rfl (plainFor_of_name wpl_X7) (by simp [lg_sl, Value.category, zml, m_X7_advance]) ?_
  refine z_aload_n 0 dX7_advance_0 rfl rfl ?_
  refine z_getI dX7_advance_1 zc7 (by decide) wf_X7_59 hf fun x1 hf => ?_
  refine z_istore_n [(1, .int x1), (0, .ref a)] dX7_advance_4 rfl (by decide) rfl ?_
  refine Z.sub [1, 0] rfl (zl_X7_advance_5 hd (fun u5 h6 hf => ?_) N x1 h hf)
  · refine z_aload_n 0 dX7_advance_37 rfl rfl ?_
    refine z_iload_n 1 dX7_advance_38 rfl rfl ?_
    refine z_putB dX7_advance_39 zc7 (by decide) wf_X7_85 (Or.inl rfl) rfl rfl hf fun h7 hf => ?_
    refine z_aload_n 0 dX7_advance_42 rfl rfl ?_
    refine z_iconst (0 : Int32) dX7_advance_43 (by decide) ?_
    refine z_putB dX7_advance_44 zc7 (by decide) wf_X7_88 (Or.inl rfl) rfl rfl hf fun h8 hf => ?_
    refine z_aload_n 0 dX7_advance_47 rfl rfl ?_
    refine z_iconst (0 : Int32) dX7_advance_48 (by decide) ?_
    refine z_putB dX7_advance_49 zc7 (by decide) wf_X7_79 (Or.inl rfl) rfl rfl hf fun h9 hf => ?_
    refine z_iload_n 1 dX7_advance_52 rfl rfl ?_
    refine z_aload_n 0 dX7_advance_53 rfl rfl ?_
    refine z_getI dX7_advance_54 zc7 (by decide) wf_X7_56 hf fun x10 hf => ?_
    refine z_icmp_ge 67 dX7_advance_57 (by decide) hf (fun hf => ?_) (fun hf => ?_)
    · exact Z.sub [0, 1] rfl (zj_X7_advance_67 hd hf)
    · refine z_iload_n 1 dX7_advance_60 rfl rfl ?_
      refine z_sipush (700 : Int32) dX7_advance_61 (by decide) ?_
      refine z_icmp_lt 73 dX7_advance_64 (by decide) hf (fun hf => ?_) (fun hf => ?_)
      · refine z_aload_n 0 dX7_advance_73 rfl rfl ?_
        refine z_aload_n 0 dX7_advance_74 rfl rfl ?_
        refine z_getA dX7_advance_75 zc7 (by decide) wf_X7_15 hf fun x12 hf => ?_
        refine z_iload_n 1 dX7_advance_78 rfl rfl ?_
        refine z_iaload dX7_advance_79 hf fun x13 hf => ?_
        refine z_cS_i (d' := d - 1) (As := [.int x13]) (rest := [.ref a]) dX7_advance_80 lk_X7_91 hf (fun w1 e1 => zc_X7_isDigit (by omega) e1) (by omega) rfl rfl (Nat.le_of_ble_eq_true rfl) fun y14 hf => ?_
        refine z_if_eq 90 dX7_advance_83 (by decide) hf (fun hf => ?_) (fun hf => ?_)
        · refine z_aload_n 0 dX7_advance_90 rfl rfl ?_
          refine z_getA dX7_advance_91 zc7 (by decide) wf_X7_15 hf fun x15 hf => ?_
          refine z_iload_n 1 dX7_advance_94 rfl rfl ?_
          refine z_iaload dX7_advance_95 hf fun x16 hf => ?_
          refine z_cS_i (d' := d - 1) (As := [.int x16]) (rest := [.ref a]) dX7_advance_96 lk_X7_95 hf (fun w1 e1 => zc_X7_isLetter (by omega) e1) (by omega) rfl rfl (Nat.le_of_ble_eq_true rfl) fun y17 hf => ?_
          refine z_if_eq 106 dX7_advance_99 (by decide) hf (fun hf => ?_) (fun hf => ?_)
          · refine z_iconst (3 : Int32) dX7_advance_106 (by decide) ?_
            exact Z.sub [0, 1] rfl (zj_X7_advance_107 hd hf)
          · refine z_iconst (2 : Int32) dX7_advance_102 (by decide) ?_
            refine z_goto 107 dX7_advance_103 (by decide) ?_
            exact Z.sub [0, 1] rfl (zj_X7_advance_107 hd hf)
        · refine z_iconst (1 : Int32) dX7_advance_86 (by decide) ?_
          refine z_goto 107 dX7_advance_87 (by decide) ?_
          exact Z.sub [0, 1] rfl (zj_X7_advance_107 hd hf)
      · exact Z.sub [0, 1] rfl (zj_X7_advance_67 hd hf)

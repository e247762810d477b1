set_option maxRecDepth 4000 in
theorem zc_X7_takeLot {Γ : zG} {N d : Nat} (hd : 13 ≤ d) {a : Nat} {h : zH} {w : Int32 × zH} (hf : f_X7_takeLot N a h = some w) : Zm Γ m_X7_takeLot d [.ref a] h (zoI w) := by
  unfold f_X7_takeLot at hf
  refine z_meth rfl (plainFor_of_name wpl_X7) (by simp [lg_sl, Value.category, zml, m_X7_takeLot]) ?_
  refine z_aload_n 0 dX7_takeLot_0 rfl rfl ?_
  refine z_getA dX7_takeLot_1 zc7 (by decide) wf_X7_33 hf fun x1 hf => ?_
  refine z_getA dX7_takeLot_4 zc0 (by decide) wf_X7_183 hf fun x2 hf => ?_
  refine z_cV_i (d' := d - 1) (As := []) (rest := []) dX7_takeLot_7 lk_X7_174 rfl hf (fun w1 e1 => zc_X6_isFull (by omega) e1) (by omega) rfl rfl (Nat.le_of_ble_eq_true rfl) fun y3 hf => ?_
  refine z_if_eq 24 dX7_takeLot_10 (by decide) hf (fun hf => ?_) (fun hf => ?_)
  · refine z_aload_n 0 dX7_takeLot_24 rfl rfl ?_
    refine z_cV_v (d' := d - 1) (As := []) (rest := []) dX7_takeLot_25 lk_X7_72 rfl hf (fun w1 e1 => zc_X7_advance (by omega) e1) (by omega) rfl rfl (Nat.le_of_ble_eq_true rfl) fun y4 hf => ?_
    refine z_aload_n 0 dX7_takeLot_28 rfl rfl ?_
    refine z_iconst (1 : Int32) dX7_takeLot_29 (by decide) ?_
    refine z_sipush (9999 : Int32) dX7_takeLot_30 (by decide) ?_
    refine z_cV_i (d' := d - 1) (As := [.int (1 : Int32), .int (9999 : Int32)]) (rest := []) dX7_takeLot_33 lk_X7_132 rfl hf (fun w1 e1 => zc_X7_takeNumber (by omega) e1) (by omega) rfl rfl (Nat.le_of_ble_eq_true rfl) fun y5 hf => ?_
    refine z_if_ne 41 dX7_takeLot_36 (by decide) hf (fun hf => ?_) (fun hf => ?_)
    · refine z_iconst (0 : Int32) dX7_takeLot_39 (by decide) ?_
      exact z_zret dX7_takeLot_40 rfl (Or.inl rfl) (by cases hf; rfl)
    · refine z_aload_n 0 dX7_takeLot_41 rfl rfl ?_
      refine z_getA dX7_takeLot_42 zc7 (by decide) wf_X7_33 hf fun x6 hf => ?_
      refine z_getA dX7_takeLot_45 zc0 (by decide) wf_X7_183 hf fun x7 hf => ?_
      refine z_aload_n 0 dX7_takeLot_48 rfl rfl ?_
      refine z_getI dX7_takeLot_49 zc7 (by decide) wf_X7_116 hf fun x8 hf => ?_
      refine z_cV_v (d' := d - 1) (As := [.int x8]) (rest := []) dX7_takeLot_52 lk_X7_186 rfl hf (fun w1 e1 => zc_X6_push (by omega) e1) (by omega) rfl rfl (Nat.le_of_ble_eq_true rfl) fun y9 hf => ?_
      refine z_iconst (1 : Int32) dX7_takeLot_55 (by decide) ?_
      exact z_zret dX7_takeLot_56 rfl (Or.inr rfl) (by cases hf; rfl)
  · refine z_aload_n 0 dX7_takeLot_13 rfl rfl ?_
    refine z_bipush (-4 : Int32) dX7_takeLot_14 (by decide) ?_
    refine z_aload_n 0 dX7_takeLot_16 rfl rfl ?_
    refine z_getI dX7_takeLot_17 zc7 (by decide) wf_X7_85 hf fun x10 hf => ?_
    refine z_cV_i (d' := d - 1) (As := [.int (-4 : Int32), .int x10]) (rest := []) dX7_takeLot_20 lk_X7_112 rfl hf (fun w1 e1 => zc_X7_fail (by omega) e1) (by omega) rfl rfl (Nat.le_of_ble_eq_true rfl) fun y11 hf => ?_
    obtain ⟨x12, hz, hf⟩ := Option.bind_eq_some_iff.mp hf
    obtain ⟨hb, rfl⟩ := zB_of hz
    exact z_zret dX7_takeLot_23 rfl hb (by cases hf; rfl)
set_option maxRecDepth 4000 in
theorem zj_X7_takeVariable_56 {Γ : zG} {N d : Nat} {h0 : zH} (hd : 22 ≤ d) {v0 : Nat} {s0 : Int32} {h : zH} {w : Int32 × zH} (hf : f_X7_takeVariable_j56 N v0 s0 h = some w) : Z Γ m_X7_takeVariable d h0 (zoI w) 56 [(0, .ref v0)] [.int s0] h := by
  unfold f_X7_takeVariable_j56 at hf
  refine z_istore_n [(1, .int s0), (0, .ref v0)] dX7_takeVariable_56 rfl (by decide) rfl ?_
  refine z_iload_n 0 dX7_takeVariable_57 rfl rfl ?_
  refine z_if_ne 72 dX7_takeVariable_58 (by decide) hf (fun hf => ?_) (fun hf => ?_)
  · refine z_aload_n 1 dX7_takeVariable_61 rfl rfl ?_
    refine z_bipush (-2 : Int32) dX7_takeVariable_62 (by decide) ?_
    refine z_aload_n 1 dX7_takeVariable_64 rfl rfl ?_
    refine z_getI dX7_takeVariable_65 zc7 (by decide) wf_X7_85 hf fun x8 hf => ?_
    refine z_cV_i (d' := d - 1) (As := [.int (-2 : Int32), .int x8]) (rest := []) dX7_takeVariable_68 lk_X7_112 rfl hf (fun w1 e1 => zc_X7_fail (by omega) e1) (by omega) rfl rfl (Nat.le_of_ble_eq_true rfl) fun y9 hf => ?_
    obtain ⟨x10, hz, hf⟩ := Option.bind_eq_some_iff.mp hf
    obtain ⟨hb, rfl⟩ := zB_of hz
    exact z_zret dX7_takeVariable_71 rfl hb (by cases hf; rfl)
  · refine z_aload_n 1 dX7_takeVariable_72 rfl rfl ?_
    refine z_getA dX7_takeVariable_73 zc7 (by decide) wf_X7_24 hf fun x5 hf => ?_
    refine z_iload_n 0 dX7_takeVariable_76 rfl rfl ?_
    refine z_cV_v (d' := d - 1) (As := [.int s0]) (rest := []) dX7_takeVariable_77 lk_X7_186 rfl hf (fun w1 e1 => zc_X6_push (by omega) e1) (by omega) rfl rfl (Nat.le_of_ble_eq_true rfl) fun y6 hf => ?_
    refine z_aload_n 1 dX7_takeVariable_80 rfl rfl ?_
    refine z_cV_v (d' := d - 1) (As := []) (rest := []) dX7_takeVariable_81 lk_X7_72 rfl hf (fun w1 e1 => zc_X7_advance (by omega) e1) (by omega) rfl rfl (Nat.le_of_ble_eq_true rfl) fun y7 hf => ?_
    refine z_iconst (1 : Int32) dX7_takeVariable_84 (by decide) ?_
    exact z_zret dX7_takeVariable_85 rfl (Or.inr rfl) (by cases hf; rfl)
set_option maxRecDepth 4000 in
theorem zc_X7_takeVariable {Γ : zG} {N d : Nat} (hd : 22 ≤ d) {a : Nat} {h : zH} {w : Int32 × zH} (hf : f_X7_takeVariable N a h = some w) : Zm Γ m_X7_takeVariable d [.ref a] h (zoI w) := by
  unfold f_X7_takeVariable at hf
  refine z_meth rfl (plainFor_of_name wpl_X7) (by simp [lg_sl, Value.category, zml, m_X7_takeVariable]) ?_
  refine z_aload_n 0 dX7_takeVariable_0 rfl rfl ?_
  refine z_ldcS7 (i := 5) (by decide) rfl rfl dX7_takeVariable_1 ?_
  refine z_cV_i (d' := d - 1) (As := [.ref (zKa Γ 5)]) (rest := []) dX7_takeVariable_3 lk_X7_128 rfl hf (fun w1 e1 => zc_X7_isWord (by omega) e1) (by omega) rfl rfl (Nat.le_of_ble_eq_true rfl) fun y1 hf => ?_
  refine z_if_eq 13 dX7_takeVariable_6 (by decide) hf (fun hf => ?_) (fun hf => ?_)
  · refine z_aload_n 0 dX7_takeVariable_13 rfl rfl ?_
    refine z_ldcS7 (i := 6) (by decide) rfl rfl dX7_takeVariable_14 ?_
    refine z_cV_i (d' := d - 1) (As := [.ref (zKa Γ 6)]) (rest := []) dX7_takeVariable_16 lk_X7_128 rfl hf (fun w1 e1 => zc_X7_isWord (by omega) e1) (by omega) rfl rfl (Nat.le_of_ble_eq_true rfl) fun y2 hf => ?_
    refine z_if_eq 27 dX7_takeVariable_19 (by decide) hf (fun hf => ?_) (fun hf => ?_)
    · refine z_aload_n 0 dX7_takeVariable_27 rfl rfl ?_
      refine z_ldcS7 (i := 7) (by decide) rfl rfl dX7_takeVariable_28 ?_
      refine z_cV_i (d' := d - 1) (As := [.ref (zKa Γ 7)]) (rest := []) dX7_takeVariable_30 lk_X7_128 rfl hf (fun w1 e1 => zc_X7_isWord (by omega) e1) (by omega) rfl rfl (Nat.le_of_ble_eq_true rfl) fun y3 hf => ?_
      refine z_if_eq 41 dX7_takeVariable_33 (by decide) hf (fun hf => ?_) (fun hf => ?_)
      · refine z_aload_n 0 dX7_takeVariable_41 rfl rfl ?_
        refine z_ldcS7 (i := 8) (by decide) rfl rfl dX7_takeVariable_42 ?_
        refine z_cV_i (d' := d - 1) (As := [.ref (zKa Γ 8)]) (rest := []) dX7_takeVariable_44 lk_X7_128 rfl hf (fun w1 e1 => zc_X7_isWord (by omega) e1) (by omega) rfl rfl (Nat.le_of_ble_eq_true rfl) fun y4 hf => ?_
        refine z_if_eq 55 dX7_takeVariable_47 (by decide) hf (fun hf => ?_) (fun hf => ?_)
        · refine z_iconst (0 : Int32) dX7_takeVariable_55 (by decide) ?_
          exact Z.sub [0] rfl (zj_X7_takeVariable_56 hd hf)
        · refine z_bipush (-4 : Int32) dX7_takeVariable_50 (by decide) ?_
          refine z_goto 56 dX7_takeVariable_52 (by decide) ?_
          exact Z.sub [0] rfl (zj_X7_takeVariable_56 hd hf)
      · refine z_bipush (-3 : Int32) dX7_takeVariable_36 (by decide) ?_
        refine z_goto 56 dX7_takeVariable_38 (by decide) ?_
        exact Z.sub [0] rfl (zj_X7_takeVariable_56 hd hf)
    · refine z_bipush (-2 : Int32) dX7_takeVariable_22 (by decide) ?_
      refine z_goto 56 dX7_takeVariable_24 (by decide) ?_
      exact Z.sub [0] rfl (zj_X7_takeVariable_56 hd hf)
  · refine z_iconst (-1 : Int32) dX7_takeVariable_9 (by decide) ?_
    refine z_goto 56 dX7_takeVariable_10 (by decide) ?_
    exact Z.sub [0] rfl (zj_X7_takeVariable_56 hd hf)
set_option maxRecDepth 4000 in
theorem zc_X7_takeFactor {Γ : zG} {N d : Nat} {rs : Nat → Int32 → zH → Option (Int32 × zH)} {dr : Nat} (hrs : ∀ (a : Nat) (p1 : Int32) (h : zH) (w : Int32 × zH), rs a p1 h = some w → Zm Γ m_X7_takeSum dr [.ref a, .int p1] h (zoI w)) (hd : 23 ≤ d ∧ dr + 1 ≤ d) {a : Nat} {p1 : Int32} {h : zH} {w : Int32 × zH} (hf : f_X7_takeFactor N rs a p1 h = some w) : Zm Γ m_X7_takeFactor d [.ref a, .int p1] h (zoI w) := by
  unfold f_X7_takeFactor at hf
  refine z_meth rfl (plainFor_of_name wpl_X7) (by simp [lg_sl, Value.category, zml, m_X7_takeFactor]) ?_
  refine z_aload_n 0 dX7_takeFactor_0 rfl rfl ?_
  refine z_bipush (40 : Int32) dX7_takeFactor_1 (by decide) ?_
  refine z_cV_i (d' := d - 1) (As := [.int (40 : Int32)]) (rest := []) dX7_takeFactor_3 lk_X7_108 rfl hf (fun w1 e1 => zc_X7_isSign (by omega) e1) (by omega) rfl rfl (Nat.le_of_ble_eq_true rfl) fun y1 hf => ?_
  refine z_if_eq 54 dX7_takeFactor_6 (by decide) hf (fun hf => ?_) (fun hf => ?_)
  · refine z_aload_n 0 dX7_takeFactor_54 rfl rfl ?_
    refine z_getI dX7_takeFactor_55 zc7 (by decide) wf_X7_79 hf fun x2 hf => ?_
    refine z_iconst (2 : Int32) dX7_takeFactor_58 (by decide) ?_
    refine z_icmp_ne 67 dX7_takeFactor_59 (by decide) hf (fun hf => ?_) (fun hf => ?_)
    · refine z_aload_n 0 dX7_takeFactor_62 rfl rfl ?_
      refine z_cV_i (d' := d - 1) (As := []) (rest := []) dX7_takeFactor_63 lk_X7_211 rfl hf (fun w1 e1 => zc_X7_takeVariable (by omega) e1) (by omega) rfl rfl (Nat.le_of_ble_eq_true rfl) fun y7 hf => ?_
      obtain ⟨x8, hz, hf⟩ := Option.bind_eq_some_iff.mp hf
      obtain ⟨hb, rfl⟩ := zB_of hz
      exact z_zret dX7_takeFactor_66 rfl hb (by cases hf; rfl)
    · refine z_aload_n 0 dX7_takeFactor_67 rfl rfl ?_
      refine z_iconst (0 : Int32) dX7_takeFactor_68 (by decide) ?_
      refine z_sipush (9999 : Int32) dX7_takeFactor_69 (by decide) ?_
      refine z_cV_i (d' := d - 1) (As := [.int (0 : Int32), .int (9999 : Int32)]) (rest := []) dX7_takeFactor_72 lk_X7_132 rfl hf (fun w1 e1 => zc_X7_takeNumber (by omega) e1) (by omega) rfl rfl (Nat.le_of_ble_eq_true rfl) fun y3 hf => ?_
      refine z_if_ne 80 dX7_takeFactor_75 (by decide) hf (fun hf => ?_) (fun hf => ?_)
      · refine z_iconst (0 : Int32) dX7_takeFactor_78 (by decide) ?_
        exact z_zret dX7_takeFactor_79 rfl (Or.inl rfl) (by cases hf; rfl)
      · refine z_aload_n 0 dX7_takeFactor_80 rfl rfl ?_
        refine z_getA dX7_takeFactor_81 zc7 (by decide) wf_X7_24 hf fun x4 hf => ?_
        refine z_aload_n 0 dX7_takeFactor_84 rfl rfl ?_
        refine z_getI dX7_takeFactor_85 zc7 (by decide) wf_X7_116 hf fun x5 hf => ?_
        refine z_cV_v (d' := d - 1) (As := [.int x5]) (rest := []) dX7_takeFactor_88 lk_X7_186 rfl hf (fun w1 e1 => zc_X6_push (by omega) e1) (by omega) rfl rfl (Nat.le_of_ble_eq_true rfl) fun y6 hf => ?_
        refine z_iconst (1 : Int32) dX7_takeFactor_91 (by decide) ?_
        exact z_zret dX7_takeFactor_92 rfl (Or.inr rfl) (by cases hf; rfl)
  · refine z_iload_n 1 dX7_takeFactor_9 rfl rfl ?_
    refine z_iconst (4 : Int32) dX7_takeFactor_10 (by decide) ?_
    refine z_icmp_lt 25 dX7_takeFactor_11 (by decide) hf (fun hf => ?_) (fun hf => ?_)
    · refine z_aload_n 0 dX7_takeFactor_25 rfl rfl ?_
      refine z_cV_v (d' := d - 1) (As := []) (rest := []) dX7_takeFactor_26 lk_X7_72 rfl hf (fun w1 e1 => zc_X7_advance (by omega) e1) (by omega) rfl rfl (Nat.le_of_ble_eq_true rfl) fun y9 hf => ?_
      refine z_aload_n 0 dX7_takeFactor_29 rfl rfl ?_
      refine z_iload_n 1 dX7_takeFactor_30 rfl rfl ?_
      refine z_iconst (1 : Int32) dX7_takeFactor_31 (by decide) ?_
      refine z_iadd dX7_takeFactor_32 ?_
      refine z_cV_i (d' := dr) (As := [.int (p1 + (1 : Int32))]) (rest := []) dX7_takeFactor_33 lk_X7_189 rfl hf (fun w1 e1 => hrs _ _ _ _ e1) (by omega) rfl rfl (Nat.le_of_ble_eq_true rfl) fun y10 hf => ?_
      refine z_if_eq 52 dX7_takeFactor_36 (by decide) hf (fun hf => ?_) (fun hf => ?_)
      · refine z_iconst (0 : Int32) dX7_takeFactor_52 (by decide) ?_
        exact z_zret dX7_takeFactor_53 rfl (Or.inl rfl) (by cases hf; rfl)
      · refine z_aload_n 0 dX7_takeFactor_39 rfl rfl ?_
        refine z_bipush (41 : Int32) dX7_takeFactor_40 (by decide) ?_
        refine z_cV_i (d' := d - 1) (As := [.int (41 : Int32)]) (rest := []) dX7_takeFactor_42 lk_X7_135 rfl hf (fun w1 e1 => zc_X7_takeSign (by omega) e1) (by omega) rfl rfl (Nat.le_of_ble_eq_true rfl) fun y11 hf => ?_
        refine z_if_eq 52 dX7_takeFactor_45 (by decide) hf (fun hf => ?_) (fun hf => ?_)
        · refine z_iconst (0 : Int32) dX7_takeFactor_52 (by decide) ?_
          exact z_zret dX7_takeFactor_53 rfl (Or.inl rfl) (by cases hf; rfl)
        · refine z_iconst (1 : Int32) dX7_takeFactor_48 (by decide) ?_
          refine z_goto 53 dX7_takeFactor_49 (by decide) ?_
          exact z_zret dX7_takeFactor_53 rfl (Or.inr rfl) (by cases hf; rfl)
    · refine z_aload_n 0 dX7_takeFactor_14 rfl rfl ?_
      refine z_bipush (-5 : Int32) dX7_takeFactor_15 (by decide) ?_
      refine z_aload_n 0 dX7_takeFactor_17 rfl rfl ?_
      refine z_getI dX7_takeFactor_18 zc7 (by decide) wf_X7_85 hf fun x12 hf => ?_
      refine z_cV_i (d' := d - 1) (As := [.int (-5 : Int32), .int x12]) (rest := []) dX7_takeFactor_21 lk_X7_112 rfl hf (fun w1 e1 => zc_X7_fail (by omega) e1) (by omega) rfl rfl (Nat.le_of_ble_eq_true rfl) fun y13 hf => ?_
      obtain ⟨x14, hz, hf⟩ := Option.bind_eq_some_iff.mp hf
      obtain ⟨hb, rfl⟩ := zB_of hz
      exact z_zret dX7_takeFactor_24 rfl hb (by cases hf; rfl)
set_option maxRecDepth 4000 in
theorem zl_X7_takeTerm_8 {Γ : zG} {N d : Nat} {h0 : zH} {rs : Nat → Int32 → zH → Option (Int32 × zH)} {dr : Nat} (hrs : ∀ (a : Nat) (p1 : Int32) (h : zH) (w : Int32 × zH), rs a p1 h = some w → Zm Γ m_X7_takeSum dr [.ref a, .int p1] h (zoI w)) (hd : 24 ≤ d ∧ dr + 2 ≤ d) {v0 : Nat} {v1 : Int32}  {w : Int32 × zH}   : ∀ (n : Nat) (v2 : Int32) (v3 : Int32) (h : zH), f_X7_takeTerm_l8 N rs v0 v1 n v2 v3 h = some w → Z Γ m_X7_takeTerm d h0 (zoI w) 8 [(0, .ref v0), (1, .int v1), (2, .int v2), (3, .int v3)] [] h := by
  intro n
  induction n with
  | zero => intro v2 v3 h hf; cases hf
  | succ n ih =>
    intro v2 v3 h hf
    rw [f_X7_takeTerm_l8] at hf
    refine z_iload_n 3 dX7_takeTerm_8 rfl rfl ?_
    refine z_sipush (700 : Int32) dX7_takeTerm_9 (by decide) ?_
    refine z_icmp_ge 80 dX7_takeTerm_12 (by decide) hf (fun hf => ?_) (fun hf => ?_)
    · refine z_iload_n 2 dX7_takeTerm_80 rfl rfl ?_
      obtain ⟨x2, hz, hf⟩ := Option.bind_eq_some_iff.mp hf
      obtain ⟨hb, rfl⟩ := zB_of hz
      exact z_zret dX7_takeTerm_81 rfl hb (by cases hf; rfl)
    · refine z_iload_n 2 dX7_takeTerm_15 rfl rfl ?_
      refine z_if_eq 80 dX7_takeTerm_16 (by decide) hf (fun hf => ?_) (fun hf => ?_)
      · refine z_iload_n 2 dX7_takeTerm_80 rfl rfl ?_
        obtain ⟨x3, hz, hf⟩ := Option.bind_eq_some_iff.mp hf
        obtain ⟨hb, rfl⟩ := zB_of hz
        exact z_zret dX7_takeTerm_81 rfl hb (by cases hf; rfl)
      · refine z_aload_n 0 dX7_takeTerm_19 rfl rfl ?_
        refine z_bipush (42 : Int32) dX7_takeTerm_20 (by decide) ?_
        refine z_cV_i (d' := d - 1) (As := [.int (42 : Int32)]) (rest := []) dX7_takeTerm_22 lk_X7_108 rfl hf (fun w1 e1 => zc_X7_isSign (by omega) e1) (by omega) rfl rfl (Nat.le_of_ble_eq_true rfl) fun y4 hf => ?_
        refine zjn_elim (P := fun (j37 : Int32 → zH → Option (Int32 × zH)) => ∀ (v3 : Int32) (h : zH), j37 v3 h = some w → Z Γ m_X7_takeTerm d h0 (zoI w) 37 [(0, .ref v0), (1, .int v1), (3, .int v3)] [] h) hf (fun v3 h hf => ?_) (fun j37 hj37 hf => ?_)
        · refine z_aload_n 0 dX7_takeTerm_37 rfl rfl ?_
          refine z_bipush (42 : Int32) dX7_takeTerm_38 (by decide) ?_
          refine z_cV_i (d' := d - 1) (As := [.int (42 : Int32)]) (rest := []) dX7_takeTerm_40 lk_X7_108 rfl hf (fun w1 e1 => zc_X7_isSign (by omega) e1) (by omega) rfl rfl (Nat.le_of_ble_eq_true rfl) fun y7 hf => ?_
          refine zjn_elim (P := fun (j53 : Int32 → Int32 → zH → Option (Int32 × zH)) => ∀ (v3 : Int32) (s0 : Int32) (h : zH), j53 v3 s0 h = some w → Z Γ m_X7_takeTerm d h0 (zoI w) 53 [(0, .ref v0), (1, .int v1), (3, .int v3)] [.int s0] h) hf (fun v3 s0 h hf => ?_) (fun j53 hj53 hf => ?_)
          · refine z_istore [(4, .int s0), (0, .ref v0), (1, .int v1), (3, .int v3)] dX7_takeTerm_53 (by decide) rfl ?_
            refine z_aload_n 1 dX7_takeTerm_55 rfl rfl ?_
            refine z_cV_v (d' := d - 1) (As := []) (rest := []) dX7_takeTerm_56 lk_X7_72 rfl hf (fun w1 e1 => zc_X7_advance (by omega) e1) (by omega) rfl rfl (Nat.le_of_ble_eq_true rfl) fun y8 hf => ?_
            refine z_aload_n 1 dX7_takeTerm_59 rfl rfl ?_
            refine z_iload_n 2 dX7_takeTerm_60 rfl rfl ?_
            refine z_cV_i (d' := d - 1) (As := [.int v1]) (rest := []) dX7_takeTerm_61 lk_X7_208 rfl hf (fun w1 e1 => zc_X7_takeFactor hrs ⟨by omega, by omega⟩ e1) (by omega) rfl rfl (Nat.le_of_ble_eq_true rfl) fun y9 hf => ?_
            refine z_istore_n [(2, .int y9.1), (4, .int s0), (0, .ref v0), (1, .int v1), (3, .int v3)] dX7_takeTerm_64 rfl (by decide) rfl ?_
            refine z_aload_n 2 dX7_takeTerm_65 rfl rfl ?_
            refine z_getA dX7_takeTerm_66 zc7 (by decide) wf_X7_24 hf fun x10 hf => ?_
            refine z_iload 1 dX7_takeTerm_69 rfl ?_
            refine z_cV_v (d' := d - 1) (As := [.int s0]) (rest := []) dX7_takeTerm_71 lk_X7_186 rfl hf (fun w1 e1 => zc_X6_push (by omega) e1) (by omega) rfl rfl (Nat.le_of_ble_eq_true rfl) fun y11 hf => ?_
            refine z_iinc (v3 + (1 : Int32)) 4 [(3, .int (v3 + (1 : Int32))), (2, .int y9.1), (4, .int s0), (0, .ref v0), (1, .int v1)] dX7_takeTerm_74 rfl rfl (by decide) rfl ?_
            refine z_goto 8 dX7_takeTerm_77 (by decide) ?_
            exact Z.sub [3, 4, 1, 0] rfl (ih y9.1 (v3 + (1 : Int32)) y11 hf)
          · refine z_if_eq 51 dX7_takeTerm_43 (by decide) hf (fun hf => ?_) (fun hf => ?_)
            · refine z_bipush (-8 : Int32) dX7_takeTerm_51 (by decide) ?_
              exact Z.sub [0, 1, 2] rfl (hj53 v3 (-8 : Int32) y7.2 hf)
            · refine z_bipush (-7 : Int32) dX7_takeTerm_46 (by decide) ?_
              refine z_goto 53 dX7_takeTerm_48 (by decide) ?_
              exact Z.sub [0, 1, 2] rfl (hj53 v3 (-7 : Int32) y7.2 hf)
        · refine z_if_ne 37 dX7_takeTerm_25 (by decide) hf (fun hf => ?_) (fun hf => ?_)
          · refine z_aload_n 0 dX7_takeTerm_28 rfl rfl ?_
            refine z_bipush (47 : Int32) dX7_takeTerm_29 (by decide) ?_
            refine z_cV_i (d' := d - 1) (As := [.int (47 : Int32)]) (rest := []) dX7_takeTerm_31 lk_X7_108 rfl hf (fun w1 e1 => zc_X7_isSign (by omega) e1) (by omega) rfl rfl (Nat.le_of_ble_eq_true rfl) fun y5 hf => ?_
            refine z_if_eq 80 dX7_takeTerm_34 (by decide) hf (fun hf => ?_) (fun hf => ?_)
            · refine z_iload_n 2 dX7_takeTerm_80 rfl rfl ?_
              obtain ⟨x6, hz, hf⟩ := Option.bind_eq_some_iff.mp hf
              obtain ⟨hb, rfl⟩ := zB_of hz
              exact z_zret dX7_takeTerm_81 rfl hb (by cases hf; rfl)
            · exact Z.sub [0, 1, 3] rfl (hj37 v3 y5.2 hf)
          · exact Z.sub [0, 1, 3] rfl (hj37 v3 y4.2 hf)
set_option maxRecDepth 4000 in
theorem zc_X7_takeTerm {Γ : zG} {N d : Nat} {rs : Nat → Int32 → zH → Option (Int32 × zH)} {dr : Nat} (hrs : ∀ (a : Nat) (p1 : Int32) (h : zH) (w : Int32 × zH), rs a p1 h = some w → Zm Γ m_X7_takeSum dr [.ref a, .int p1] h (zoI w)) (hd : 24 ≤ d ∧ dr + 2 ≤ d) {a : Nat} {p1 : Int32} {h : zH} {w : Int32 × zH} (hf : f_X7_takeTerm N rs a p1 h = some w) : Zm Γ m_X7_takeTerm d [.ref a, .int p1] h (zoI w) := by
  unfold f_X7_takeTerm at hf
  refine z_meth rfl (plainFor_of_name wpl_X7) (by simp [lg_sl, Value.category, zml, m_X7_takeTerm]) ?_
  refine z_aload_n 0 dX7_takeTerm_0 rfl rfl ?_
  refine z_iload_n 1 dX7_takeTerm_1 rfl rfl ?_
  refine z_cV_i (d' := d - 1) (As := [.int p1]) (rest := []) dX7_takeTerm_2 lk_X7_208 rfl hf (fun w1 e1 => zc_X7_takeFactor hrs ⟨by omega, by omega⟩ e1) (by omega) rfl rfl (Nat.le_of_ble_eq_true rfl) fun y1 hf => ?_
  refine z_istore_n [(2, .int y1.1), (0, .ref a), (1, .int p1)] dX7_takeTerm_5 rfl (by decide) rfl ?_
  refine z_iconst (0 : Int32) dX7_takeTerm_6 (by decide) ?_
  refine z_istore_n [(3, .int (0 : Int32)), (2, .int y1.1), (0, .ref a), (1, .int p1)] dX7_takeTerm_7 rfl (by decide) rfl ?_
  refine Z.sub [2, 3, 1, 0] rfl (zl_X7_takeTerm_8 hrs hd  N y1.1 (0 : Int32) y1.2 hf)
set_option maxRecDepth 4000 in
theorem zl_X7_takeSum_8 {Γ : zG} {N d : Nat} {h0 : zH} {rs : Nat → Int32 → zH → Option (Int32 × zH)} {dr : Nat} (hrs : ∀ (a : Nat) (p1 : Int32) (h : zH) (w : Int32 × zH), rs a p1 h = some w → Zm Γ m_X7_takeSum dr [.ref a, .int p1] h (zoI w)) (hd : 25 ≤ d ∧ dr + 3 ≤ d) {v0 : Nat} {v1 : Int32}  {w : Int32 × zH}   : ∀ (n : Nat) (v2 : Int32) (v3 : Int32) (h : zH), f_X7_takeSum_l8 N rs v0 v1 n v2 v3 h = some w → Z Γ m_X7_takeSum d h0 (zoI w) 8 [(0, .ref v0), (1, .int v1), (2, .int v2), (3, .int v3)] [] h := by
  intro n
  induction n with
  | zero => intro v2 v3 h hf; cases hf
  | succ n ih =>
    intro v2 v3 h hf
    rw [f_X7_takeSum_l8] at hf
    refine z_iload_n 3 dX7_takeSum_8 rfl rfl ?_
    refine z_sipush (700 : Int32) dX7_takeSum_9 (by decide) ?_
    refine z_icmp_ge 80 dX7_takeSum_12 (by decide) hf (fun hf => ?_) (fun hf => ?_)
    · refine z_iload_n 2 dX7_takeSum_80 rfl rfl ?_
      obtain ⟨x2, hz, hf⟩ := Option.bind_eq_some_iff.mp hf
      obtain ⟨hb, rfl⟩ := zB_of hz
      exact z_zret dX7_takeSum_81 rfl hb (by cases hf; rfl)
    · refine z_iload_n 2 dX7_takeSum_15 rfl rfl ?_
      refine z_if_eq 80 dX7_takeSum_16 (by decide) hf (fun hf => ?_) (fun hf => ?_)
      · refine z_iload_n 2 dX7_takeSum_80 rfl rfl ?_
        obtain ⟨x3, hz, hf⟩ := Option.bind_eq_some_iff.mp hf
        obtain ⟨hb, rfl⟩ := zB_of hz
        exact z_zret dX7_takeSum_81 rfl hb (by cases hf; rfl)
      · refine z_aload_n 0 dX7_takeSum_19 rfl rfl ?_
        refine z_bipush (43 : Int32) dX7_takeSum_20 (by decide) ?_
        refine z_cV_i (d' := d - 1) (As := [.int (43 : Int32)]) (rest := []) dX7_takeSum_22 lk_X7_108 rfl hf (fun w1 e1 => zc_X7_isSign (by omega) e1) (by omega) rfl rfl (Nat.le_of_ble_eq_true rfl) fun y4 hf => ?_
        refine zjn_elim (P := fun (j37 : Int32 → zH → Option (Int32 × zH)) => ∀ (v3 : Int32) (h : zH), j37 v3 h = some w → Z Γ m_X7_takeSum d h0 (zoI w) 37 [(0, .ref v0), (1, .int v1), (3, .int v3)] [] h) hf (fun v3 h hf => ?_) (fun j37 hj37 hf => ?_)
        · refine z_aload_n 0 dX7_takeSum_37 rfl rfl ?_
          refine z_bipush (43 : Int32) dX7_takeSum_38 (by decide) ?_
          refine z_cV_i (d' := d - 1) (As := [.int (43 : Int32)]) (rest := []) dX7_takeSum_40 lk_X7_108 rfl hf (fun w1 e1 => zc_X7_isSign (by omega) e1) (by omega) rfl rfl (Nat.le_of_ble_eq_true rfl) fun y7 hf => ?_
          refine zjn_elim (P := fun (j53 : Int32 → Int32 → zH → Option (Int32 × zH)) => ∀ (v3 : Int32) (s0 : Int32) (h : zH), j53 v3 s0 h = some w → Z Γ m_X7_takeSum d h0 (zoI w) 53 [(0, .ref v0), (1, .int v1), (3, .int v3)] [.int s0] h) hf (fun v3 s0 h hf => ?_) (fun j53 hj53 hf => ?_)
          · refine z_istore [(4, .int s0), (0, .ref v0), (1, .int v1), (3, .int v3)] dX7_takeSum_53 (by decide) rfl ?_
            refine z_aload_n 1 dX7_takeSum_55 rfl rfl ?_
            refine z_cV_v (d' := d - 1) (As := []) (rest := []) dX7_takeSum_56 lk_X7_72 rfl hf (fun w1 e1 => zc_X7_advance (by omega) e1) (by omega) rfl rfl (Nat.le_of_ble_eq_true rfl) fun y8 hf => ?_
            refine z_aload_n 1 dX7_takeSum_59 rfl rfl ?_
            refine z_iload_n 2 dX7_takeSum_60 rfl rfl ?_
            refine z_cV_i (d' := d - 1) (As := [.int v1]) (rest := []) dX7_takeSum_61 lk_X7_205 rfl hf (fun w1 e1 => zc_X7_takeTerm hrs ⟨by omega, by omega⟩ e1) (by omega) rfl rfl (Nat.le_of_ble_eq_true rfl) fun y9 hf => ?_
            refine z_istore_n [(2, .int y9.1), (4, .int s0), (0, .ref v0), (1, .int v1), (3, .int v3)] dX7_takeSum_64 rfl (by decide) rfl ?_
            refine z_aload_n 2 dX7_takeSum_65 rfl rfl ?_
            refine z_getA dX7_takeSum_66 zc7 (by decide) wf_X7_24 hf fun x10 hf => ?_
            refine z_iload 1 dX7_takeSum_69 rfl ?_
            refine z_cV_v (d' := d - 1) (As := [.int s0]) (rest := []) dX7_takeSum_71 lk_X7_186 rfl hf (fun w1 e1 => zc_X6_push (by omega) e1) (by omega) rfl rfl (Nat.le_of_ble_eq_true rfl) fun y11 hf => ?_
            refine z_iinc (v3 + (1 : Int32)) 4 [(3, .int (v3 + (1 : Int32))), (2, .int y9.1), (4, .int s0), (0, .ref v0), (1, .int v1)] dX7_takeSum_74 rfl rfl (by decide) rfl ?_
            refine z_goto 8 dX7_takeSum_77 (by decide) ?_
            exact Z.sub [3, 4, 1, 0] rfl (ih y9.1 (v3 + (1 : Int32)) y11 hf)
          · refine z_if_eq 51 dX7_takeSum_43 (by decide) hf (fun hf => ?_) (fun hf => ?_)
            · refine z_bipush (-6 : Int32) dX7_takeSum_51 (by decide) ?_
              exact Z.sub [0, 1, 2] rfl (hj53 v3 (-6 : Int32) y7.2 hf)
            · refine z_bipush (-5 : Int32) dX7_takeSum_46 (by decide) ?_
              refine z_goto 53 dX7_takeSum_48 (by decide) ?_
              exact Z.sub [0, 1, 2] rfl (hj53 v3 (-5 : Int32) y7.2 hf)
        · refine z_if_ne 37 dX7_takeSum_25 (by decide) hf (fun hf => ?_) (fun hf => ?_)
          · refine z_aload_n 0 dX7_takeSum_28 rfl rfl ?_
            refine z_bipush (45 : Int32) dX7_takeSum_29 (by decide) ?_
            refine z_cV_i (d' := d - 1) (As := [.int (45 : Int32)]) (rest := []) dX7_takeSum_31 lk_X7_108 rfl hf (fun w1 e1 => zc_X7_isSign (by omega) e1) (by omega) rfl rfl (Nat.le_of_ble_eq_true rfl) fun y5 hf => ?_
            refine z_if_eq 80 dX7_takeSum_34 (by decide) hf (fun hf => ?_) (fun hf => ?_)
            · refine z_iload_n 2 dX7_takeSum_80 rfl rfl ?_
              obtain ⟨x6, hz, hf⟩ := Option.bind_eq_some_iff.mp hf
              obtain ⟨hb, rfl⟩ := zB_of hz
              exact z_zret dX7_takeSum_81 rfl hb (by cases hf; rfl)
            · exact Z.sub [0, 1, 3] rfl (hj37 v3 y5.2 hf)
          · exact Z.sub [0, 1, 3] rfl (hj37 v3 y4.2 hf)
set_option maxRecDepth 4000 in
theorem zc_X7_takeSum {Γ : zG} {N d : Nat} {rs : Nat → Int32 → zH → Option (Int32 × zH)} {dr : Nat} (hrs : ∀ (a : Nat) (p1 : Int32) (h : zH) (w : Int32 × zH), rs a p1 h = some w → Zm Γ m_X7_takeSum dr [.ref a, .int p1] h (zoI w)) (hd : 25 ≤ d ∧ dr + 3 ≤ d) {a : Nat} {p1 : Int32} {h : zH} {w : Int32 × zH} (hf : f_X7_takeSum N rs a p1 h = some w) : Zm Γ m_X7_takeSum d [.ref a, .int p1] h (zoI w) := by
  unfold f_X7_takeSum at hf
  refine z_meth rfl (plainFor_of_name wpl_X7) (by simp [lg_sl, Value.category, zml, m_X7_takeSum]) ?_
  refine z_aload_n 0 dX7_takeSum_0 rfl rfl ?_
  refine z_iload_n 1 dX7_takeSum_1 rfl rfl ?_
  refine z_cV_i (d' := d - 1) (As := [.int p1]) (rest := []) dX7_takeSum_2 lk_X7_205 rfl hf (fun w1 e1 => zc_X7_takeTerm hrs ⟨by omega, by omega⟩ e1) (by omega) rfl rfl (Nat.le_of_ble_eq_true rfl) fun y1 hf => ?_
  refine z_istore_n [(2, .int y1.1), (0, .ref a), (1, .int p1)] dX7_takeSum_5 rfl (by decide) rfl ?_
  refine z_iconst (0 : Int32) dX7_takeSum_6 (by decide) ?_
  refine z_istore_n [(3, .int (0 : Int32)), (2, .int y1.1), (0, .ref a), (1, .int p1)] dX7_takeSum_7 rfl (by decide) rfl ?_
  refine Z.sub [2, 3, 1, 0] rfl (zl_X7_takeSum_8 hrs hd  N y1.1 (0 : Int32) y1.2 hf)
theorem zc_X7_takeSumN {Γ : zG} {N n d : Nat} (hd : 60 + 4 * n ≤ d) {a : Nat} {p1 : Int32} {h : zH} {w : Int32 × zH} (hf : f_X7_takeSumN N n a p1 h = some w) : Zm Γ m_X7_takeSum d [.ref a, .int p1] h (zoI w) := by
  induction n generalizing d a p1 h w with
  | zero => cases hf
  | succ n ih =>
    rw [f_X7_takeSumN] at hf
    exact zc_X7_takeSum (dr := d - 4) (fun a p1 h w e => ih (by omega) e) ⟨by omega, by omega⟩ hf
set_option maxRecDepth 4000 in
theorem zc_J7_copyOf_59c91 {Γ : zG} {N d : Nat} (hd : 11 ≤ d) {p1 : Nat} {p2 : Int32} {h : zH} {w : Nat × zH} (hf : f_J7_copyOf_59c91 N p1 p2 h = some w) : Zm Γ m_J7_copyOf_59c91 d [.ref p1, .int p2] h (zoA w) := by
  unfold f_J7_copyOf_59c91 at hf
  refine z_meth rfl (plainFor_of_name wpl_J7) (by simp [lg_sl, Value.category, zml, m_J7_copyOf_59c91]) ?_
  refine z_iload_n 1 dJ7_copyOf_59c91_0 rfl rfl ?_
  refine z_aload_n 0 dJ7_copyOf_59c91_1 rfl rfl ?_
  refine z_alen dJ7_copyOf_59c91_2 hf fun x1 hf => ?_
  refine z_icmp_ne 14 dJ7_copyOf_59c91_3 (by decide) hf (fun hf => ?_) (fun hf => ?_)
  · cases hf
  · refine z_iload_n 1 dJ7_copyOf_59c91_14 rfl rfl ?_
    refine z_nwI dJ7_copyOf_59c91_15 wa_I hf fun y2 hf => ?_
    refine z_astore_n [(2, .ref y2.1), (0, .ref p1), (1, .int p2)] dJ7_copyOf_59c91_17 rfl (by decide) rfl ?_
    refine z_aload_n 1 dJ7_copyOf_59c91_18 rfl rfl ?_
    refine z_iconst (0 : Int32) dJ7_copyOf_59c91_19 (by decide) ?_
    refine z_aload_n 0 dJ7_copyOf_59c91_20 rfl rfl ?_
    refine z_iconst (0 : Int32) dJ7_copyOf_59c91_21 (by decide) ?_
    refine z_aload_n 1 dJ7_copyOf_59c91_22 rfl rfl ?_
    refine z_alen dJ7_copyOf_59c91_23 hf fun x3 hf => ?_
    refine z_iload_n 2 dJ7_copyOf_59c91_24 rfl rfl ?_
    refine z_cS_i (d' := d - 1) (As := [.int x3, .int p2]) (rest := [.int (0 : Int32), .ref y2.1, .int (0 : Int32), .ref p1]) dJ7_copyOf_59c91_25 lk_J7_304 hf (fun w1 e1 => zc_J9_min_7cf53 (by omega) e1) (by omega) rfl rfl (Nat.le_of_ble_eq_true rfl) fun y4 hf => ?_
    refine z_copyI dJ7_copyOf_59c91_28 wl_J7_150 wi_acn wi_acs wi_sys (by omega) (Nat.le_of_ble_eq_true rfl) hf fun h5 hf => ?_
    refine z_aload_n 0 dJ7_copyOf_59c91_31 rfl rfl ?_
    exact z_aret dJ7_copyOf_59c91_32 rfl (Or.inr ⟨_, rfl⟩) (Or.inr ⟨_, rfl⟩) (by cases hf; rfl)
set_option maxRecDepth 4000 in
theorem zc_X6_toArray {Γ : zG} {N d : Nat} (hd : 12 ≤ d) {a : Nat} {h : zH} {w : Nat × zH} (hf : f_X6_toArray N a h = some w) : Zm Γ m_X6_toArray d [.ref a] h (zoA w) := by
  unfold f_X6_toArray at hf
  refine z_meth rfl (plainFor_of_name wpl_X6) (by simp [lg_sl, Value.category, zml, m_X6_toArray]) ?_
  refine z_aload_n 0 dX6_toArray_0 rfl rfl ?_
  refine z_getA dX6_toArray_1 zc6 (by decide) wf_X6_13 hf fun x1 hf => ?_
  refine z_iconst (0 : Int32) dX6_toArray_4 (by decide) ?_
  refine z_aload_n 0 dX6_toArray_5 rfl rfl ?_
  refine z_getI dX6_toArray_6 zc6 (by decide) wf_X6_19 hf fun x2 hf => ?_
  refine z_aload_n 0 dX6_toArray_9 rfl rfl ?_
  refine z_getA dX6_toArray_10 zc6 (by decide) wf_X6_13 hf fun x3 hf => ?_
  refine z_alen dX6_toArray_13 hf fun x4 hf => ?_
  refine z_cS_i (d' := d - 1) (As := [.int x2, .int x4]) (rest := [.int (0 : Int32), .ref x1]) dX6_toArray_14 lk_X6_27 hf (fun w1 e1 => zc_J9_min_7cf53 (by omega) e1) (by omega) rfl rfl (Nat.le_of_ble_eq_true rfl) fun y5 hf => ?_
  refine z_cS_i (d' := d - 1) (As := [.int (0 : Int32), .int y5.1]) (rest := [.ref x1]) dX6_toArray_17 lk_X6_7 hf (fun w1 e1 => zc_J9_max_7cf53 (by omega) e1) (by omega) rfl rfl (Nat.le_of_ble_eq_true rfl) fun y6 hf => ?_
  refine z_cS_a (d' := d - 1) (As := [.ref x1, .int y6.1]) (rest := []) dX6_toArray_20 lk_X6_36 hf (fun w1 e1 => zc_J7_copyOf_59c91 (by omega) e1) (by omega) rfl rfl (Nat.le_of_ble_eq_true rfl) fun y7 hf => ?_
  exact z_aret dX6_toArray_23 rfl (Or.inr ⟨_, rfl⟩) (Or.inr ⟨_, rfl⟩) (by cases hf; rfl)
set_option maxRecDepth 4000 in
theorem zc_X0_setRule {Γ : zG} {N d : Nat} (hd : 10 ≤ d) {a : Nat} {p1 : Nat} {h : zH} {w : zH} (hf : f_X0_setRule N a p1 h = some w) : Zm Γ m_X0_setRule d [.ref a, .ref p1] h (zoV w) := by
  unfold f_X0_setRule at hf
  refine z_meth rfl (plainFor_of_name wpl_X0) (by simp [lg_sl, Value.category, zml, m_X0_setRule]) ?_
  refine z_aload_n 0 dX0_setRule_0 rfl rfl ?_
  refine z_aload_n 1 dX0_setRule_1 rfl rfl ?_
  refine z_putB dX0_setRule_2 zc0 (by decide) wf_X0_49 (Or.inl rfl) rfl rfl hf fun h1 hf => ?_
  exact z_vret dX0_setRule_5 rfl (by cases hf; rfl)
set_option maxRecDepth 4000 in
theorem zc_X7_takePrice {Γ : zG} {N d : Nat} (hd : 101 ≤ d) {a : Nat} {h : zH} {w : Int32 × zH} (hf : f_X7_takePrice N a h = some w) : Zm Γ m_X7_takePrice d [.ref a] h (zoI w) := by
  unfold f_X7_takePrice at hf
  refine z_meth rfl (plainFor_of_name wpl_X7) (by simp [lg_sl, Value.category, zml, m_X7_takePrice]) ?_
  refine z_aload_n 0 dX7_takePrice_0 rfl rfl ?_
  refine z_iconst (1 : Int32) dX7_takePrice_1 (by decide) ?_
  refine z_putB dX7_takePrice_2 zc7 (by decide) wf_X7_65 (Or.inl rfl) rfl rfl hf fun h1 hf => ?_
  refine z_aload_n 0 dX7_takePrice_5 rfl rfl ?_
  refine z_cV_v (d' := d - 1) (As := []) (rest := []) dX7_takePrice_6 lk_X7_72 rfl hf (fun w1 e1 => zc_X7_advance (by omega) e1) (by omega) rfl rfl (Nat.le_of_ble_eq_true rfl) fun y2 hf => ?_
  refine z_aload_n 0 dX7_takePrice_9 rfl rfl ?_
  refine z_iconst (0 : Int32) dX7_takePrice_10 (by decide) ?_
  refine z_cV_i (d' := d - 1) (As := [.int (0 : Int32)]) (rest := []) dX7_takePrice_11 lk_X7_189 rfl hf (fun w1 e1 => zc_X7_takeSumN (by omega) e1) (by omega) rfl rfl (Nat.le_of_ble_eq_true rfl) fun y3 hf => ?_
  refine z_if_ne 19 dX7_takePrice_14 (by decide) hf (fun hf => ?_) (fun hf => ?_)
  · refine z_iconst (0 : Int32) dX7_takePrice_17 (by decide) ?_
    exact z_zret dX7_takePrice_18 rfl (Or.inl rfl) (by cases hf; rfl)
  · refine z_aload_n 0 dX7_takePrice_19 rfl rfl ?_
    refine z_getA dX7_takePrice_20 zc7 (by decide) wf_X7_33 hf fun x4 hf => ?_
    refine z_nwO dX7_takePrice_23 zc5 wc_X7_192 wn_X5 wi_X5 rfl zd5 hf fun y5 hf => ?_
    refine z_dup dX7_takePrice_26 rfl ?_
    refine z_aload_n 0 dX7_takePrice_27 rfl rfl ?_
    refine z_getA dX7_takePrice_28 zc7 (by decide) wf_X7_24 hf fun x6 hf => ?_
    refine z_cV_a (d' := d - 1) (As := []) (rest := [.ref y5.1, .ref y5.1, .ref x4]) dX7_takePrice_31 lk_X7_194 rfl hf (fun w1 e1 => zc_X6_toArray (by omega) e1) (by omega) rfl rfl (Nat.le_of_ble_eq_true rfl) fun y7 hf => ?_
    refine z_cI_v (d' := d - 1) (As := [.ref y7.1]) (rest := [.ref y5.1, .ref x4]) dX7_takePrice_34 lk_X7_198 hf (fun w1 e1 => zc_X5_init (by omega) e1) (by omega) rfl rfl (Nat.le_of_ble_eq_true rfl) fun y8 hf => ?_
    refine z_cV_v (d' := d - 1) (As := [.ref y5.1]) (rest := []) dX7_takePrice_37 lk_X7_201 rfl hf (fun w1 e1 => zc_X0_setRule (by omega) e1) (by omega) rfl rfl (Nat.le_of_ble_eq_true rfl) fun y9 hf => ?_
    refine z_iconst (1 : Int32) dX7_takePrice_40 (by decide) ?_
    exact z_zret dX7_takePrice_41 rfl (Or.inr rfl) (by cases hf; rfl)
set_option maxRecDepth 4000 in
theorem zj_X7_takeStatement_131 {Γ : zG} {N d : Nat} {h0 : zH} (hd : 102 ≤ d) {v0 : Nat}  {h : zH} {w : Int32 × zH} (hf : f_X7_takeStatement_j131 N v0  h = some w) : Z Γ m_X7_takeStatement d h0 (zoI w) 131 [(0, .ref v0)] [] h := by
  unfold f_X7_takeStatement_j131 at hf
  refine z_aload_n 0 dX7_takeStatement_131 rfl rfl ?_
  refine z_bipush (-2 : Int32) dX7_takeStatement_132 (by decide) ?_
  refine z_aload_n 0 dX7_takeStatement_134 rfl rfl ?_
  refine z_getI dX7_takeStatement_135 zc7 (by decide) wf_X7_85 hf fun x5 hf => ?_
  refine z_cV_i (d' := d - 1) (As := [.int (-2 : Int32), .int x5]) (rest := []) dX7_takeStatement_138 lk_X7_112 rfl hf (fun w1 e1 => zc_X7_fail (by omega) e1) (by omega) rfl rfl (Nat.le_of_ble_eq_true rfl) fun y6 hf => ?_
  obtain ⟨x7, hz, hf⟩ := Option.bind_eq_some_iff.mp hf
  obtain ⟨hb, rfl⟩ := zB_of hz
  exact z_zret dX7_takeStatement_141 rfl hb (by cases hf; rfl)
set_option maxRecDepth 4000 in
theorem zc_X7_takeStatement {Γ : zG} {N d : Nat} (hd : 102 ≤ d) {a : Nat} {h : zH} {w : Int32 × zH} (hf : f_X7_takeStatement N a h = some w) : Zm Γ m_X7_takeStatement d [.ref a] h (zoI w) := by
  unfold f_X7_takeStatement at hf
  refine z_meth rfl (plainFor_of_name wpl_X7) (by simp [lg_sl, Value.category, zml, m_X7_takeStatement]) ?_
  refine z_aload_n 0 dX7_takeStatement_0 rfl rfl ?_
  refine z_ldcS7 (i := 1) (by decide) rfl rfl dX7_takeStatement_1 ?_
  refine z_cV_i (d' := d - 1) (As := [.ref (zKa Γ 1)]) (rest := []) dX7_takeStatement_3 lk_X7_128 rfl hf (fun w1 e1 => zc_X7_isWord (by omega) e1) (by omega) rfl rfl (Nat.le_of_ble_eq_true rfl) fun y1 hf => ?_
  refine z_if_eq 31 dX7_takeStatement_6 (by decide) hf (fun hf => ?_) (fun hf => ?_)
  · refine z_aload_n 0 dX7_takeStatement_31 rfl rfl ?_
    refine z_ldcS7 (i := 2) (by decide) rfl rfl dX7_takeStatement_32 ?_
    refine z_cV_i (d' := d - 1) (As := [.ref (zKa Γ 2)]) (rest := []) dX7_takeStatement_34 lk_X7_128 rfl hf (fun w1 e1 => zc_X7_isWord (by omega) e1) (by omega) rfl rfl (Nat.le_of_ble_eq_true rfl) fun y2 hf => ?_
    refine z_if_eq 62 dX7_takeStatement_37 (by decide) hf (fun hf => ?_) (fun hf => ?_)
    · refine z_aload_n 0 dX7_takeStatement_62 rfl rfl ?_
      refine z_ldcS7 (i := 3) (by decide) rfl rfl dX7_takeStatement_63 ?_
      refine z_cV_i (d' := d - 1) (As := [.ref (zKa Γ 3)]) (rest := []) dX7_takeStatement_65 lk_X7_128 rfl hf (fun w1 e1 => zc_X7_isWord (by omega) e1) (by omega) rfl rfl (Nat.le_of_ble_eq_true rfl) fun y3 hf => ?_
      refine z_if_eq 93 dX7_takeStatement_68 (by decide) hf (fun hf => ?_) (fun hf => ?_)
      · refine z_aload_n 0 dX7_takeStatement_93 rfl rfl ?_
        refine z_ldcS7 (i := 4) (by decide) rfl rfl dX7_takeStatement_94 ?_
        refine z_cV_i (d' := d - 1) (As := [.ref (zKa Γ 4)]) (rest := []) dX7_takeStatement_96 lk_X7_128 rfl hf (fun w1 e1 => zc_X7_isWord (by omega) e1) (by omega) rfl rfl (Nat.le_of_ble_eq_true rfl) fun y4 hf => ?_
        refine z_if_eq 131 dX7_takeStatement_99 (by decide) hf (fun hf => ?_) (fun hf => ?_)
        · exact Z.sub [0] rfl (zj_X7_takeStatement_131 hd hf)
        · refine z_aload_n 0 dX7_takeStatement_102 rfl rfl ?_
          refine z_getI dX7_takeStatement_103 zc7 (by decide) wf_X7_65 hf fun x8 hf => ?_
          refine z_if_ne 131 dX7_takeStatement_106 (by decide) hf (fun hf => ?_) (fun hf => ?_)
          · refine z_aload_n 0 dX7_takeStatement_109 rfl rfl ?_
            refine z_cV_i (d' := d - 1) (As := []) (rest := []) dX7_takeStatement_110 lk_X7_155 rfl hf (fun w1 e1 => zc_X7_takePrice (by omega) e1) (by omega) rfl rfl (Nat.le_of_ble_eq_true rfl) fun y9 hf => ?_
            refine z_if_eq 129 dX7_takeStatement_113 (by decide) hf (fun hf => ?_) (fun hf => ?_)
            · refine z_iconst (0 : Int32) dX7_takeStatement_129 (by decide) ?_
              exact z_zret dX7_takeStatement_130 rfl (Or.inl rfl) (by cases hf; rfl)
            · refine z_aload_n 0 dX7_takeStatement_116 rfl rfl ?_
              refine z_bipush (59 : Int32) dX7_takeStatement_117 (by decide) ?_
              refine z_cV_i (d' := d - 1) (As := [.int (59 : Int32)]) (rest := []) dX7_takeStatement_119 lk_X7_135 rfl hf (fun w1 e1 => zc_X7_takeSign (by omega) e1) (by omega) rfl rfl (Nat.le_of_ble_eq_true rfl) fun y10 hf => ?_
              refine z_if_eq 129 dX7_takeStatement_122 (by decide) hf (fun hf => ?_) (fun hf => ?_)
              · refine z_iconst (0 : Int32) dX7_takeStatement_129 (by decide) ?_
                exact z_zret dX7_takeStatement_130 rfl (Or.inl rfl) (by cases hf; rfl)
              · refine z_iconst (1 : Int32) dX7_takeStatement_125 (by decide) ?_
                refine z_goto 130 dX7_takeStatement_126 (by decide) ?_
                exact z_zret dX7_takeStatement_130 rfl (Or.inr rfl) (by cases hf; rfl)
          · exact Z.sub [0] rfl (zj_X7_takeStatement_131 hd hf)
      · refine z_aload_n 0 dX7_takeStatement_71 rfl rfl ?_
        refine z_cV_i (d' := d - 1) (As := []) (rest := []) dX7_takeStatement_72 lk_X7_150 rfl hf (fun w1 e1 => zc_X7_takeLot (by omega) e1) (by omega) rfl rfl (Nat.le_of_ble_eq_true rfl) fun y11 hf => ?_
        refine z_if_eq 91 dX7_takeStatement_75 (by decide) hf (fun hf => ?_) (fun hf => ?_)
        · refine z_iconst (0 : Int32) dX7_takeStatement_91 (by decide) ?_
          exact z_zret dX7_takeStatement_92 rfl (Or.inl rfl) (by cases hf; rfl)
        · refine z_aload_n 0 dX7_takeStatement_78 rfl rfl ?_
          refine z_bipush (59 : Int32) dX7_takeStatement_79 (by decide) ?_
          refine z_cV_i (d' := d - 1) (As := [.int (59 : Int32)]) (rest := []) dX7_takeStatement_81 lk_X7_135 rfl hf (fun w1 e1 => zc_X7_takeSign (by omega) e1) (by omega) rfl rfl (Nat.le_of_ble_eq_true rfl) fun y12 hf => ?_
          refine z_if_eq 91 dX7_takeStatement_84 (by decide) hf (fun hf => ?_) (fun hf => ?_)
          · refine z_iconst (0 : Int32) dX7_takeStatement_91 (by decide) ?_
            exact z_zret dX7_takeStatement_92 rfl (Or.inl rfl) (by cases hf; rfl)
          · refine z_iconst (1 : Int32) dX7_takeStatement_87 (by decide) ?_
            refine z_goto 92 dX7_takeStatement_88 (by decide) ?_
            exact z_zret dX7_takeStatement_92 rfl (Or.inr rfl) (by cases hf; rfl)
    · refine z_aload_n 0 dX7_takeStatement_40 rfl rfl ?_
      refine z_cV_i (d' := d - 1) (As := []) (rest := []) dX7_takeStatement_41 lk_X7_145 rfl hf (fun w1 e1 => zc_X7_takeCard (by omega) e1) (by omega) rfl rfl (Nat.le_of_ble_eq_true rfl) fun y13 hf => ?_
      refine z_if_eq 60 dX7_takeStatement_44 (by decide) hf (fun hf => ?_) (fun hf => ?_)
      · refine z_iconst (0 : Int32) dX7_takeStatement_60 (by decide) ?_
        exact z_zret dX7_takeStatement_61 rfl (Or.inl rfl) (by cases hf; rfl)
      · refine z_aload_n 0 dX7_takeStatement_47 rfl rfl ?_
        refine z_bipush (59 : Int32) dX7_takeStatement_48 (by decide) ?_
        refine z_cV_i (d' := d - 1) (As := [.int (59 : Int32)]) (rest := []) dX7_takeStatement_50 lk_X7_135 rfl hf (fun w1 e1 => zc_X7_takeSign (by omega) e1) (by omega) rfl rfl (Nat.le_of_ble_eq_true rfl) fun y14 hf => ?_
        refine z_if_eq 60 dX7_takeStatement_53 (by decide) hf (fun hf => ?_) (fun hf => ?_)
        · refine z_iconst (0 : Int32) dX7_takeStatement_60 (by decide) ?_
          exact z_zret dX7_takeStatement_61 rfl (Or.inl rfl) (by cases hf; rfl)
        · refine z_iconst (1 : Int32) dX7_takeStatement_56 (by decide) ?_
          refine z_goto 61 dX7_takeStatement_57 (by decide) ?_
          exact z_zret dX7_takeStatement_61 rfl (Or.inr rfl) (by cases hf; rfl)
  · refine z_aload_n 0 dX7_takeStatement_9 rfl rfl ?_
    refine z_cV_i (d' := d - 1) (As := []) (rest := []) dX7_takeStatement_10 lk_X7_140 rfl hf (fun w1 e1 => zc_X7_takePlayer (by omega) e1) (by omega) rfl rfl (Nat.le_of_ble_eq_true rfl) fun y15 hf => ?_
    refine z_if_eq 29 dX7_takeStatement_13 (by decide) hf (fun hf => ?_) (fun hf => ?_)
    · refine z_iconst (0 : Int32) dX7_takeStatement_29 (by decide) ?_
      exact z_zret dX7_takeStatement_30 rfl (Or.inl rfl) (by cases hf; rfl)
    · refine z_aload_n 0 dX7_takeStatement_16 rfl rfl ?_
      refine z_bipush (59 : Int32) dX7_takeStatement_17 (by decide) ?_
      refine z_cV_i (d' := d - 1) (As := [.int (59 : Int32)]) (rest := []) dX7_takeStatement_19 lk_X7_135 rfl hf (fun w1 e1 => zc_X7_takeSign (by omega) e1) (by omega) rfl rfl (Nat.le_of_ble_eq_true rfl) fun y16 hf => ?_
      refine z_if_eq 29 dX7_takeStatement_22 (by decide) hf (fun hf => ?_) (fun hf => ?_)
      · refine z_iconst (0 : Int32) dX7_takeStatement_29 (by decide) ?_
        exact z_zret dX7_takeStatement_30 rfl (Or.inl rfl) (by cases hf; rfl)
      · refine z_iconst (1 : Int32) dX7_takeStatement_25 (by decide) ?_
        refine z_goto 30 dX7_takeStatement_26 (by decide) ?_
        exact z_zret dX7_takeStatement_30 rfl (Or.inr rfl) (by cases hf; rfl)
set_option maxRecDepth 4000 in
theorem zl_X7_read_68 {Γ : zG} {N d : Nat} {h0 : zH} (hd : 103 ≤ d) {v0 : Nat}  {w : Int32 × zH}   : ∀ (n : Nat) (v2 : Int32) (h : zH), f_X7_read_l68 N v0 n v2 h = some w → Z Γ m_X7_read d h0 (zoI w) 68 [(0, .ref v0), (2, .int v2)] [] h := by
  intro n
  induction n with
  | zero => intro v2 h hf; cases hf
  | succ n ih =>
    intro v2 h hf
    rw [f_X7_read_l68] at hf
    refine z_iload_n 1 dX7_read_68 rfl rfl ?_
    refine z_sipush (700 : Int32) dX7_read_69 (by decide) ?_
    refine z_icmp_ge 100 dX7_read_72 (by decide) hf (fun hf => ?_) (fun hf => ?_)
    · refine z_aload_n 0 dX7_read_100 rfl rfl ?_
      refine z_getI dX7_read_101 zc7 (by decide) wf_X7_69 hf fun x17 hf => ?_
      exact z_iret dX7_read_104 rfl (by cases hf; rfl)
    · refine z_aload_n 0 dX7_read_75 rfl rfl ?_
      refine z_getI dX7_read_76 zc7 (by decide) wf_X7_69 hf fun x18 hf => ?_
      refine z_if_ne 100 dX7_read_79 (by decide) hf (fun hf => ?_) (fun hf => ?_)
      · refine z_aload_n 0 dX7_read_82 rfl rfl ?_
        refine z_getI dX7_read_83 zc7 (by decide) wf_X7_79 hf fun x20 hf => ?_
        refine z_if_eq 100 dX7_read_86 (by decide) hf (fun hf => ?_) (fun hf => ?_)
        · refine z_aload_n 0 dX7_read_100 rfl rfl ?_
          refine z_getI dX7_read_101 zc7 (by decide) wf_X7_69 hf fun x21 hf => ?_
          exact z_iret dX7_read_104 rfl (by cases hf; rfl)
        · refine z_aload_n 0 dX7_read_89 rfl rfl ?_
          refine z_cV_i (d' := d - 1) (As := []) (rest := []) dX7_read_90 lk_X7_82 rfl hf (fun w1 e1 => zc_X7_takeStatement (by omega) e1) (by omega) rfl rfl (Nat.le_of_ble_eq_true rfl) fun y22 hf => ?_
          refine z_pop dX7_read_93 rfl ?_
          refine z_iinc (v2 + (1 : Int32)) 1 [(2, .int (v2 + (1 : Int32))), (0, .ref v0)] dX7_read_94 rfl rfl (by decide) rfl ?_
          refine z_goto 68 dX7_read_97 (by decide) ?_
          exact Z.sub [1, 0] rfl (ih (v2 + (1 : Int32)) y22.2 hf)
      · refine z_aload_n 0 dX7_read_100 rfl rfl ?_
        refine z_getI dX7_read_101 zc7 (by decide) wf_X7_69 hf fun x19 hf => ?_
        exact z_iret dX7_read_104 rfl (by cases hf; rfl)
set_option maxRecDepth 4000 in
theorem zc_X7_read {Γ : zG} {N d : Nat} (hd : 103 ≤ d) {a : Nat} {p1 : Int32} {h : zH} {w : Int32 × zH} (hf : f_X7_read N a p1 h = some w) : Zm Γ m_X7_read d [.ref a, .int p1] h (zoI w) := by
  unfold f_X7_read at hf
  refine z_meth rfl (plainFor_of_name wpl_X7) (by simp [lg_sl, Value.category, zml, m_X7_read]) ?_
  refine z_aload_n 0 dX7_read_0 rfl rfl ?_
  refine z_getA dX7_read_1 zc7 (by decide) wf_X7_33 hf fun x1 hf => ?_
  refine z_cV_v (d' := d - 1) (As := []) (rest := []) dX7_read_4 lk_X7_44 rfl hf (fun w1 e1 => zc_X0_start (by omega) e1) (by omega) rfl rfl (Nat.le_of_ble_eq_true rfl) fun y2 hf => ?_
  refine z_aload_n 0 dX7_read_7 rfl rfl ?_
  refine z_iconst (0 : Int32) dX7_read_8 (by decide) ?_
  refine z_iload_n 1 dX7_read_9 rfl rfl ?_
  refine z_aload_n 0 dX7_read_10 rfl rfl ?_
  refine z_getI dX7_read_11 zc7 (by decide) wf_X7_37 hf fun x3 hf => ?_
  refine z_cS_i (d' := d - 1) (As := [.int p1, .int x3]) (rest := [.int (0 : Int32), .ref a]) dX7_read_14 lk_X7_47 hf (fun w1 e1 => zc_J9_min_7cf53 (by omega) e1) (by omega) rfl rfl (Nat.le_of_ble_eq_true rfl) fun y4 hf => ?_
  refine z_cS_i (d' := d - 1) (As := [.int (0 : Int32), .int y4.1]) (rest := [.ref a]) dX7_read_17 lk_X7_53 hf (fun w1 e1 => zc_J9_max_7cf53 (by omega) e1) (by omega) rfl rfl (Nat.le_of_ble_eq_true rfl) fun y5 hf => ?_
  refine z_putB dX7_read_20 zc7 (by decide) wf_X7_56 (Or.inl rfl) rfl rfl hf fun h6 hf => ?_
  refine z_aload_n 0 dX7_read_23 rfl rfl ?_
  refine z_iconst (0 : Int32) dX7_read_24 (by decide) ?_
  refine z_putB dX7_read_25 zc7 (by decide) wf_X7_37 (Or.inl rfl) rfl rfl hf fun h7 hf => ?_
  refine z_aload_n 0 dX7_read_28 rfl rfl ?_
  refine z_iconst (0 : Int32) dX7_read_29 (by decide) ?_
  refine z_putB dX7_read_30 zc7 (by decide) wf_X7_59 (Or.inl rfl) rfl rfl hf fun h8 hf => ?_
  refine z_aload_n 0 dX7_read_33 rfl rfl ?_
  refine z_getA dX7_read_34 zc7 (by decide) wf_X7_24 hf fun x9 hf => ?_
  refine z_cV_v (d' := d - 1) (As := []) (rest := []) dX7_read_37 lk_X7_62 rfl hf (fun w1 e1 => zc_X6_clear (by omega) e1) (by omega) rfl rfl (Nat.le_of_ble_eq_true rfl) fun y10 hf => ?_
  refine z_aload_n 0 dX7_read_40 rfl rfl ?_
  refine z_iconst (0 : Int32) dX7_read_41 (by decide) ?_
  refine z_putB dX7_read_42 zc7 (by decide) wf_X7_65 (Or.inl rfl) rfl rfl hf fun h11 hf => ?_
  refine z_aload_n 0 dX7_read_45 rfl rfl ?_
  refine z_iconst (0 : Int32) dX7_read_46 (by decide) ?_
  refine z_putB dX7_read_47 zc7 (by decide) wf_X7_69 (Or.inl rfl) rfl rfl hf fun h12 hf => ?_
  refine z_aload_n 0 dX7_read_50 rfl rfl ?_
  refine z_iconst (-1 : Int32) dX7_read_51 (by decide) ?_
  refine z_putB dX7_read_52 zc7 (by decide) wf_X7_41 (Or.inl rfl) rfl rfl hf fun h13 hf => ?_
  refine z_aload_n 0 dX7_read_55 rfl rfl ?_
  refine z_cV_v (d' := d - 1) (As := []) (rest := []) dX7_read_56 lk_X7_72 rfl hf (fun w1 e1 => zc_X7_advance (by omega) e1) (by omega) rfl rfl (Nat.le_of_ble_eq_true rfl) fun y14 hf => ?_
  refine z_aload_n 0 dX7_read_59 rfl rfl ?_
  refine z_cV_i (d' := d - 1) (As := []) (rest := []) dX7_read_60 lk_X7_75 rfl hf (fun w1 e1 => zc_X7_takeGroup (by omega) e1) (by omega) rfl rfl (Nat.le_of_ble_eq_true rfl) fun y15 hf => ?_
  refine z_if_eq 100 dX7_read_63 (by decide) hf (fun hf => ?_) (fun hf => ?_)
  · refine z_aload_n 0 dX7_read_100 rfl rfl ?_
    refine z_getI dX7_read_101 zc7 (by decide) wf_X7_69 hf fun x16 hf => ?_
    exact z_iret dX7_read_104 rfl (by cases hf; rfl)
  · refine z_iconst (0 : Int32) dX7_read_66 (by decide) ?_
    refine z_istore_n [(2, .int (0 : Int32)), (0, .ref a), (1, .int p1)] dX7_read_67 rfl (by decide) rfl ?_
    refine Z.sub [1, 0] rfl (zl_X7_read_68 hd  N (0 : Int32) y15.2 hf)
set_option maxRecDepth 4000 in
theorem zc_X7_errorPlace {Γ : zG} {N d : Nat} (hd : 10 ≤ d) {a : Nat} {h : zH} {w : Int32 × zH} (hf : f_X7_errorPlace N a h = some w) : Zm Γ m_X7_errorPlace d [.ref a] h (zoI w) := by
  unfold f_X7_errorPlace at hf
  refine z_meth rfl (plainFor_of_name wpl_X7) (by simp [lg_sl, Value.category, zml, m_X7_errorPlace]) ?_
  refine z_aload_n 0 dX7_errorPlace_0 rfl rfl ?_
  refine z_getI dX7_errorPlace_1 zc7 (by decide) wf_X7_41 hf fun x1 hf => ?_
  exact z_iret dX7_errorPlace_4 rfl (by cases hf; rfl)
set_option maxRecDepth 4000 in
theorem zc_J9_floorMod_7cf53 {Γ : zG} {N d : Nat} (hd : 10 ≤ d) {p1 : Int32} {p2 : Int32} {h : zH} {w : Int32 × zH} (hf : f_J9_floorMod_7cf53 N p1 p2 h = some w) : Zm Γ m_J9_floorMod_7cf53 d [.int p1, .int p2] h (zoI w) := by
  unfold f_J9_floorMod_7cf53 at hf
  refine z_meth rfl (by decide +kernel) (by simp [lg_sl, Value.category, zml, m_J9_floorMod_7cf53]) ?_
  refine z_iload_n 0 dJ9_floorMod_7cf53_0 rfl rfl ?_
  refine z_iload_n 1 dJ9_floorMod_7cf53_1 rfl rfl ?_
  refine z_irem dJ9_floorMod_7cf53_2 hf fun x1 hf => ?_
  refine z_istore_n [(2, .int x1), (0, .int p1), (1, .int p2)] dJ9_floorMod_7cf53_3 rfl (by decide) rfl ?_
  refine z_iload_n 1 dJ9_floorMod_7cf53_4 rfl rfl ?_
  refine z_iload_n 2 dJ9_floorMod_7cf53_5 rfl rfl ?_
  refine z_ixor dJ9_floorMod_7cf53_6 ?_
  refine z_if_ge 18 dJ9_floorMod_7cf53_7 (by decide) hf (fun hf => ?_) (fun hf => ?_)
  · refine z_iload_n 0 dJ9_floorMod_7cf53_18 rfl rfl ?_
    exact z_iret dJ9_floorMod_7cf53_19 rfl (by cases hf; rfl)
  · refine z_iload_n 0 dJ9_floorMod_7cf53_10 rfl rfl ?_
    refine z_if_eq 18 dJ9_floorMod_7cf53_11 (by decide) hf (fun hf => ?_) (fun hf => ?_)
    · refine z_iload_n 0 dJ9_floorMod_7cf53_18 rfl rfl ?_
      exact z_iret dJ9_floorMod_7cf53_19 rfl (by cases hf; rfl)
    · refine z_iload_n 0 dJ9_floorMod_7cf53_14 rfl rfl ?_
      refine z_iload_n 2 dJ9_floorMod_7cf53_15 rfl rfl ?_
      refine z_iadd dJ9_floorMod_7cf53_16 ?_
      exact z_iret dJ9_floorMod_7cf53_17 rfl (by cases hf; rfl)
set_option maxRecDepth 4000 in
theorem zc_X4_placeOf {Γ : zG} {N d : Nat} (hd : 11 ≤ d) {a : Nat} {p1 : Int32} {h : zH} {w : Int32 × zH} (hf : f_X4_placeOf N a p1 h = some w) : Zm Γ m_X4_placeOf d [.ref a, .int p1] h (zoI w) := by
  unfold f_X4_placeOf at hf
  refine z_meth rfl (plainFor_of_name wpl_X4) (by simp [lg_sl, Value.category, zml, m_X4_placeOf]) ?_
  refine z_aload_n 0 dX4_placeOf_0 rfl rfl ?_
  refine z_getI dX4_placeOf_1 zc4 (by decide) wf_X4_24 hf fun x1 hf => ?_
  refine z_iload_n 1 dX4_placeOf_4 rfl rfl ?_
  refine z_iadd dX4_placeOf_5 ?_
  refine z_bipush (8 : Int32) dX4_placeOf_6 (by decide) ?_
  refine z_cS_i (d' := d - 1) (As := [.int (x1 + p1), .int (8 : Int32)]) (rest := []) dX4_placeOf_8 lk_X4_27 hf (fun w1 e1 => zc_J9_floorMod_7cf53 (by omega) e1) (by omega) rfl rfl (Nat.le_of_ble_eq_true rfl) fun y2 hf => ?_
  exact z_iret dX4_placeOf_11 rfl (by cases hf; rfl)
set_option maxRecDepth 4000 in
theorem zc_X6_copyFrom {Γ : zG} {N d : Nat} (hd : 11 ≤ d) {a : Nat} {p1 : Nat} {h : zH} {w : zH} (hf : f_X6_copyFrom N a p1 h = some w) : Zm Γ m_X6_copyFrom d [.ref a, .ref p1] h (zoV w) := by
  unfold f_X6_copyFrom at hf
  refine z_meth rfl (plainFor_of_name wpl_X6) (by simp [lg_sl, Value.category, zml, m_X6_copyFrom]) ?_
  refine z_iconst (0 : Int32) dX6_copyFrom_0 (by decide) ?_
  refine z_aload_n 1 dX6_copyFrom_1 rfl rfl ?_
  refine z_getI dX6_copyFrom_2 zc6 (by decide) wf_X6_19 hf fun x1 hf => ?_
  refine z_aload_n 1 dX6_copyFrom_5 rfl rfl ?_
  refine z_getA dX6_copyFrom_6 zc6 (by decide) wf_X6_13 hf fun x2 hf => ?_
  refine z_alen dX6_copyFrom_9 hf fun x3 hf => ?_
  refine z_aload_n 0 dX6_copyFrom_10 rfl rfl ?_
  refine z_getA dX6_copyFrom_11 zc6 (by decide) wf_X6_13 hf fun x4 hf => ?_
  refine z_alen dX6_copyFrom_14 hf fun x5 hf => ?_
  refine z_cS_i (d' := d - 1) (As := [.int x3, .int x5]) (rest := [.int x1, .int (0 : Int32)]) dX6_copyFrom_15 lk_X6_27 hf (fun w1 e1 => zc_J9_min_7cf53 (by omega) e1) (by omega) rfl rfl (Nat.le_of_ble_eq_true rfl) fun y6 hf => ?_
  refine z_cS_i (d' := d - 1) (As := [.int x1, .int y6.1]) (rest := [.int (0 : Int32)]) dX6_copyFrom_18 lk_X6_27 hf (fun w1 e1 => zc_J9_min_7cf53 (by omega) e1) (by omega) rfl rfl (Nat.le_of_ble_eq_true rfl) fun y7 hf => ?_
  refine z_cS_i (d' := d - 1) (As := [.int (0 : Int32), .int y7.1]) (rest := []) dX6_copyFrom_21 lk_X6_7 hf (fun w1 e1 => zc_J9_max_7cf53 (by omega) e1) (by omega) rfl rfl (Nat.le_of_ble_eq_true rfl) fun y8 hf => ?_
  refine z_istore_n [(2, .int y8.1), (0, .ref a), (1, .ref p1)] dX6_copyFrom_24 rfl (by decide) rfl ?_
  refine z_aload_n 2 dX6_copyFrom_25 rfl rfl ?_
  refine z_getA dX6_copyFrom_26 zc6 (by decide) wf_X6_13 hf fun x9 hf => ?_
  refine z_iconst (0 : Int32) dX6_copyFrom_29 (by decide) ?_
  refine z_aload_n 1 dX6_copyFrom_30 rfl rfl ?_
  refine z_getA dX6_copyFrom_31 zc6 (by decide) wf_X6_13 hf fun x10 hf => ?_
  refine z_iconst (0 : Int32) dX6_copyFrom_34 (by decide) ?_
  refine z_iload_n 0 dX6_copyFrom_35 rfl rfl ?_
  refine z_copyI dX6_copyFrom_36 wl_X6_30 wi_acn wi_acs wi_sys (by omega) (Nat.le_of_ble_eq_true rfl) hf fun h11 hf => ?_
  refine z_aload_n 1 dX6_copyFrom_39 rfl rfl ?_
  refine z_iload_n 0 dX6_copyFrom_40 rfl rfl ?_
  refine z_putB dX6_copyFrom_41 zc6 (by decide) wf_X6_19 (Or.inl rfl) rfl rfl hf fun h12 hf => ?_
  exact z_vret dX6_copyFrom_44 rfl (by cases hf; rfl)
set_option maxRecDepth 4000 in
theorem zc_X1_copyFrom {Γ : zG} {N d : Nat} (hd : 12 ≤ d) {a : Nat} {p1 : Nat} {h : zH} {w : zH} (hf : f_X1_copyFrom N a p1 h = some w) : Zm Γ m_X1_copyFrom d [.ref a, .ref p1] h (zoV w) := by
  unfold f_X1_copyFrom at hf
  refine z_meth rfl (plainFor_of_name wpl_X1) (by simp [lg_sl, Value.category, zml, m_X1_copyFrom]) ?_
  refine z_aload_n 0 dX1_copyFrom_0 rfl rfl ?_
  refine z_aload_n 1 dX1_copyFrom_1 rfl rfl ?_
  refine z_getI dX1_copyFrom_2 zc1 (by decide) wf_X1_23 hf fun x1 hf => ?_
  refine z_putB dX1_copyFrom_5 zc1 (by decide) wf_X1_23 (Or.inl rfl) rfl rfl hf fun h2 hf => ?_
  refine z_aload_n 0 dX1_copyFrom_8 rfl rfl ?_
  refine z_aload_n 1 dX1_copyFrom_9 rfl rfl ?_
  refine z_getI dX1_copyFrom_10 zc1 (by decide) wf_X1_27 hf fun x3 hf => ?_
  refine z_putB dX1_copyFrom_13 zc1 (by decide) wf_X1_27 (Or.inl rfl) rfl rfl hf fun h4 hf => ?_
  refine z_aload_n 0 dX1_copyFrom_16 rfl rfl ?_
  refine z_getA dX1_copyFrom_17 zc1 (by decide) wf_X1_14 hf fun x5 hf => ?_
  refine z_aload_n 1 dX1_copyFrom_20 rfl rfl ?_
  refine z_getA dX1_copyFrom_21 zc1 (by decide) wf_X1_14 hf fun x6 hf => ?_
  refine z_cV_v (d' := d - 1) (As := [.ref x6]) (rest := []) dX1_copyFrom_24 lk_X1_33 rfl hf (fun w1 e1 => zc_X6_copyFrom (by omega) e1) (by omega) rfl rfl (Nat.le_of_ble_eq_true rfl) fun y7 hf => ?_
  refine z_aload_n 0 dX1_copyFrom_27 rfl rfl ?_
  refine z_getA dX1_copyFrom_28 zc1 (by decide) wf_X1_20 hf fun x8 hf => ?_
  refine z_aload_n 1 dX1_copyFrom_31 rfl rfl ?_
  refine z_getA dX1_copyFrom_32 zc1 (by decide) wf_X1_20 hf fun x9 hf => ?_
  refine z_cV_v (d' := d - 1) (As := [.ref x9]) (rest := []) dX1_copyFrom_35 lk_X1_33 rfl hf (fun w1 e1 => zc_X6_copyFrom (by omega) e1) (by omega) rfl rfl (Nat.le_of_ble_eq_true rfl) fun y10 hf => ?_
  exact z_vret dX1_copyFrom_38 rfl (by cases hf; rfl)
set_option maxRecDepth 4000 in
theorem zl_X0_copyFrom_18 {Γ : zG} {N d : Nat} {h0 : zH} (hd : 13 ≤ d) {v0 : Nat} {v1 : Nat} {k1 : zH → Option (zH)} {w : zH}  (hk1 : ∀ (h : zH), k1 h = some w → Z Γ m_X0_copyFrom d h0 (zoV w) 44 [(0, .ref v0), (1, .ref v1)] [] h) : ∀ (n : Nat) (v2 : Int32) (h : zH), f_X0_copyFrom_l18 N v0 v1 k1 n v2 h = some w → Z Γ m_X0_copyFrom d h0 (zoV w) 18 [(0, .ref v0), (1, .ref v1), (2, .int v2)] [] h := by
  intro n
  induction n with
  | zero => intro v2 h hf; cases hf
  | succ n ih =>
    intro v2 h hf
    rw [f_X0_copyFrom_l18] at hf
    refine z_iload_n 2 dX0_copyFrom_18 rfl rfl ?_
    refine z_iconst (5 : Int32) dX0_copyFrom_19 (by decide) ?_
    refine z_icmp_ge 44 dX0_copyFrom_20 (by decide) hf (fun hf => ?_) (fun hf => ?_)
    · exact Z.sub [0, 1] rfl (hk1 h hf)
    · refine z_aload_n 0 dX0_copyFrom_23 rfl rfl ?_
      refine z_getA dX0_copyFrom_24 zc0 (by decide) wf_X0_17 hf fun x5 hf => ?_
      refine z_iload_n 2 dX0_copyFrom_27 rfl rfl ?_
      refine z_aaload dX0_copyFrom_28 hf fun x6 hf => ?_
      refine z_aload_n 1 dX0_copyFrom_29 rfl rfl ?_
      refine z_getA dX0_copyFrom_30 zc0 (by decide) wf_X0_17 hf fun x7 hf => ?_
      refine z_iload_n 2 dX0_copyFrom_33 rfl rfl ?_
      refine z_aaload dX0_copyFrom_34 hf fun x8 hf => ?_
      refine z_cV_v (d' := d - 1) (As := [.ref x8]) (rest := []) dX0_copyFrom_35 lk_X0_74 rfl hf (fun w1 e1 => zc_X1_copyFrom (by omega) e1) (by omega) rfl rfl (Nat.le_of_ble_eq_true rfl) fun y9 hf => ?_
      refine z_iinc (v2 + (1 : Int32)) 2 [(2, .int (v2 + (1 : Int32))), (0, .ref v0), (1, .ref v1)] dX0_copyFrom_38 rfl rfl (by decide) rfl ?_
      refine z_goto 18 dX0_copyFrom_41 (by decide) ?_
      exact Z.sub [1, 2, 0] rfl (ih (v2 + (1 : Int32)) y9 hf)
set_option maxRecDepth 4000 in
theorem zc_X0_copyFrom {Γ : zG} {N d : Nat} (hd : 13 ≤ d) {a : Nat} {p1 : Nat} {h : zH} {w : zH} (hf : f_X0_copyFrom N a p1 h = some w) : Zm Γ m_X0_copyFrom d [.ref a, .ref p1] h (zoV w) := by
  unfold f_X0_copyFrom at hf
  refine z_meth rfl (plainFor_of_name wpl_X0) (by simp [lg_sl, Value.category, zml, m_X0_copyFrom]) ?_
  refine z_aload_n 0 dX0_copyFrom_0 rfl rfl ?_
  refine z_aload_n 1 dX0_copyFrom_1 rfl rfl ?_
  refine z_getI dX0_copyFrom_2 zc0 (by decide) wf_X0_52 hf fun x1 hf => ?_
  refine z_putB dX0_copyFrom_5 zc0 (by decide) wf_X0_52 (Or.inl rfl) rfl rfl hf fun h2 hf => ?_
  refine z_aload_n 0 dX0_copyFrom_8 rfl rfl ?_
  refine z_aload_n 1 dX0_copyFrom_9 rfl rfl ?_
  refine z_getI dX0_copyFrom_10 zc0 (by decide) wf_X0_56 hf fun x3 hf => ?_
  refine z_putB dX0_copyFrom_13 zc0 (by decide) wf_X0_56 (Or.inl rfl) rfl rfl hf fun h4 hf => ?_
  refine z_iconst (0 : Int32) dX0_copyFrom_16 (by decide) ?_
  refine z_istore_n [(2, .int (0 : Int32)), (0, .ref a), (1, .ref p1)] dX0_copyFrom_17 rfl (by decide) rfl ?_
  refine Z.sub [1, 2, 0] rfl (zl_X0_copyFrom_18 hd (fun h10 hf => ?_) N (0 : Int32) h4 hf)
  · refine z_aload_n 0 dX0_copyFrom_44 rfl rfl ?_
    refine z_getA dX0_copyFrom_45 zc0 (by decide) wf_X0_27 hf fun x11 hf => ?_
    refine z_aload_n 1 dX0_copyFrom_48 rfl rfl ?_
    refine z_getA dX0_copyFrom_49 zc0 (by decide) wf_X0_27 hf fun x12 hf => ?_
    refine z_cV_v (d' := d - 1) (As := [.ref x12]) (rest := []) dX0_copyFrom_52 lk_X0_78 rfl hf (fun w1 e1 => zc_X6_copyFrom (by omega) e1) (by omega) rfl rfl (Nat.le_of_ble_eq_true rfl) fun y13 hf => ?_
    refine z_aload_n 0 dX0_copyFrom_55 rfl rfl ?_
    refine z_getA dX0_copyFrom_56 zc0 (by decide) wf_X0_31 hf fun x14 hf => ?_
    refine z_aload_n 1 dX0_copyFrom_59 rfl rfl ?_
    refine z_getA dX0_copyFrom_60 zc0 (by decide) wf_X0_31 hf fun x15 hf => ?_
    refine z_cV_v (d' := d - 1) (As := [.ref x15]) (rest := []) dX0_copyFrom_63 lk_X0_78 rfl hf (fun w1 e1 => zc_X6_copyFrom (by omega) e1) (by omega) rfl rfl (Nat.le_of_ble_eq_true rfl) fun y16 hf => ?_
    refine z_aload_n 0 dX0_copyFrom_66 rfl rfl ?_
    refine z_getA dX0_copyFrom_67 zc0 (by decide) wf_X0_34 hf fun x17 hf => ?_
    refine z_aload_n 1 dX0_copyFrom_70 rfl rfl ?_
    refine z_getA dX0_copyFrom_71 zc0 (by decide) wf_X0_34 hf fun x18 hf => ?_
    refine z_cV_v (d' := d - 1) (As := [.ref x18]) (rest := []) dX0_copyFrom_74 lk_X0_78 rfl hf (fun w1 e1 => zc_X6_copyFrom (by omega) e1) (by omega) rfl rfl (Nat.le_of_ble_eq_true rfl) fun y19 hf => ?_
    refine z_aload_n 0 dX0_copyFrom_77 rfl rfl ?_
    refine z_getA dX0_copyFrom_78 zc0 (by decide) wf_X0_37 hf fun x20 hf => ?_
    refine z_aload_n 1 dX0_copyFrom_81 rfl rfl ?_
    refine z_getA dX0_copyFrom_82 zc0 (by decide) wf_X0_37 hf fun x21 hf => ?_
    refine z_cV_v (d' := d - 1) (As := [.ref x21]) (rest := []) dX0_copyFrom_85 lk_X0_78 rfl hf (fun w1 e1 => zc_X6_copyFrom (by omega) e1) (by omega) rfl rfl (Nat.le_of_ble_eq_true rfl) fun y22 hf => ?_
    refine z_aload_n 0 dX0_copyFrom_88 rfl rfl ?_
    refine z_aload_n 1 dX0_copyFrom_89 rfl rfl ?_
    refine z_getA dX0_copyFrom_90 zc0 (by decide) wf_X0_49 hf fun x23 hf => ?_
    refine z_putB dX0_copyFrom_93 zc0 (by decide) wf_X0_49 (Or.inl rfl) rfl rfl hf fun h24 hf => ?_
    refine z_aload_n 0 dX0_copyFrom_96 rfl rfl ?_
    refine z_aload_n 1 dX0_copyFrom_97 rfl rfl ?_
    refine z_getI dX0_copyFrom_98 zc0 (by decide) wf_X0_62 hf fun x25 hf => ?_
    refine z_putB dX0_copyFrom_101 zc0 (by decide) wf_X0_62 (Or.inl rfl) rfl rfl hf fun h26 hf => ?_
    refine z_aload_n 0 dX0_copyFrom_104 rfl rfl ?_
    refine z_aload_n 1 dX0_copyFrom_105 rfl rfl ?_
    refine z_getI dX0_copyFrom_106 zc0 (by decide) wf_X0_65 hf fun x27 hf => ?_
    refine z_putB dX0_copyFrom_109 zc0 (by decide) wf_X0_65 (Or.inl rfl) rfl rfl hf fun h28 hf => ?_
    refine z_aload_n 0 dX0_copyFrom_112 rfl rfl ?_
    refine z_aload_n 1 dX0_copyFrom_113 rfl rfl ?_
    refine z_getI dX0_copyFrom_114 zc0 (by decide) wf_X0_81 hf fun x29 hf => ?_
    refine z_putB dX0_copyFrom_117 zc0 (by decide) wf_X0_81 (Or.inl rfl) rfl rfl hf fun h30 hf => ?_
    refine z_aload_n 0 dX0_copyFrom_120 rfl rfl ?_
    refine z_aload_n 1 dX0_copyFrom_121 rfl rfl ?_
    refine z_getI dX0_copyFrom_122 zc0 (by decide) wf_X0_84 hf fun x31 hf => ?_
    refine z_putB dX0_copyFrom_125 zc0 (by decide) wf_X0_84 (Or.inl rfl) rfl rfl hf fun h32 hf => ?_
    refine z_aload_n 0 dX0_copyFrom_128 rfl rfl ?_
    refine z_aload_n 1 dX0_copyFrom_129 rfl rfl ?_
    refine z_getI dX0_copyFrom_130 zc0 (by decide) wf_X0_68 hf fun x33 hf => ?_
    refine z_putB dX0_copyFrom_133 zc0 (by decide) wf_X0_68 (Or.inl rfl) rfl rfl hf fun h34 hf => ?_
    exact z_vret dX0_copyFrom_136 rfl (by cases hf; rfl)

theorem zws0 : ∀ k, k < 15 → lw_tbl[([204, 206, 208, 210, 212, 214, 216, 218, 220, 222, 224, 226, 228, 230, 232] : List Nat).getD k 0]? = some (u_lay RX0 TX0 k) ∧ goodWord (u_lay RX0 TX0 k) = true := by decide +kernel
theorem zc0 : zClsO 0 RX0 RX0 TX0 15 tyX0 := ⟨rfl, fun w hw => by
  obtain ⟨k, hk, rfl⟩ := List.mem_map.mp hw
  have h := zws0 k (List.mem_range.mp hk)
  exact gw_in _ h.1 h.2, tyX0_ok, nmX0, by decide +kernel⟩
theorem zd0 : ∀ j, j < 15 → defaultValue (tyX0 j) = vp_V [.null, .null, .null, .null, .null, .null, .null, .null, .int 0, .int 0, .int 0, .int 0, .int 0, .int 0, .int 0] j := by decide +kernel
theorem zws1 : ∀ k, k < 4 → lw_tbl[([150, 152, 154, 156] : List Nat).getD k 0]? = some (u_lay RX1 TX1 k) ∧ goodWord (u_lay RX1 TX1 k) = true := by decide +kernel
theorem zc1 : zClsO 1 RX1 RX1 TX1 4 tyX1 := ⟨rfl, fun w hw => by
  obtain ⟨k, hk, rfl⟩ := List.mem_map.mp hw
  have h := zws1 k (List.mem_range.mp hk)
  exact gw_in _ h.1 h.2, tyX1_ok, nmX1, by decide +kernel⟩
theorem zd1 : ∀ j, j < 4 → defaultValue (tyX1 j) = vp_V [.null, .null, .int 0, .int 0] j := by decide +kernel
theorem zws2 : ∀ k, k < 2 → lw_tbl[([93, 95] : List Nat).getD k 0]? = some (u_lay RX2 TX2 k) ∧ goodWord (u_lay RX2 TX2 k) = true := by decide +kernel
theorem zc2 : zClsO 2 RX2 RX2 TX2 2 tyX2 := ⟨rfl, fun w hw => by
  obtain ⟨k, hk, rfl⟩ := List.mem_map.mp hw
  have h := zws2 k (List.mem_range.mp hk)
  exact gw_in _ h.1 h.2, tyX2_ok, nmX2, by decide +kernel⟩
theorem zd2 : ∀ j, j < 2 → defaultValue (tyX2 j) = vp_V [.null, .null] j := by decide +kernel
theorem zws3 : ∀ k, k < 6 → lw_tbl[([313, 315, 317, 319, 321, 323] : List Nat).getD k 0]? = some (u_lay RX3 TX3 k) ∧ goodWord (u_lay RX3 TX3 k) = true := by decide +kernel
theorem zc3 : zClsO 3 RX3 RX3 TX3 6 tyX3 := ⟨rfl, fun w hw => by
  obtain ⟨k, hk, rfl⟩ := List.mem_map.mp hw
  have h := zws3 k (List.mem_range.mp hk)
  exact gw_in _ h.1 h.2, tyX3_ok, nmX3, by decide +kernel⟩
theorem zd3 : ∀ j, j < 6 → defaultValue (tyX3 j) = vp_V [.null, .null, .null, .null, .int 0, .int 0] j := by decide +kernel
theorem zws4 : ∀ k, k < 3 → lw_tbl[([292, 294, 296] : List Nat).getD k 0]? = some (u_lay RX4 TX4 k) ∧ goodWord (u_lay RX4 TX4 k) = true := by decide +kernel
theorem zc4 : zClsO 4 RX4 RX4 TX4 3 tyX4 := ⟨rfl, fun w hw => by
  obtain ⟨k, hk, rfl⟩ := List.mem_map.mp hw
  have h := zws4 k (List.mem_range.mp hk)
  exact gw_in _ h.1 h.2, tyX4_ok, nmX4, by decide +kernel⟩
theorem zd4 : ∀ j, j < 3 → defaultValue (tyX4 j) = vp_V [.null, .int 0, .int 0] j := by decide +kernel
theorem zws5 : ∀ k, k < 2 → lw_tbl[([169, 171] : List Nat).getD k 0]? = some (u_lay RX5 TX5 k) ∧ goodWord (u_lay RX5 TX5 k) = true := by decide +kernel
theorem zc5 : zClsO 5 RX5 RX5 TX5 2 tyX5 := ⟨rfl, fun w hw => by
  obtain ⟨k, hk, rfl⟩ := List.mem_map.mp hw
  have h := zws5 k (List.mem_range.mp hk)
  exact gw_in _ h.1 h.2, tyX5_ok, nmX5, by decide +kernel⟩
theorem zd5 : ∀ j, j < 2 → defaultValue (tyX5 j) = vp_V [.null, .null] j := by decide +kernel
theorem zws6 : ∀ k, k < 2 → lw_tbl[([116, 118] : List Nat).getD k 0]? = some (u_lay RX6 TX6 k) ∧ goodWord (u_lay RX6 TX6 k) = true := by decide +kernel
theorem zc6 : zClsO 6 RX6 RX6 TX6 2 tyX6 := ⟨rfl, fun w hw => by
  obtain ⟨k, hk, rfl⟩ := List.mem_map.mp hw
  have h := zws6 k (List.mem_range.mp hk)
  exact gw_in _ h.1 h.2, tyX6_ok, nmX6, by decide +kernel⟩
theorem zd6 : ∀ j, j < 2 → defaultValue (tyX6 j) = vp_V [.null, .int 0] j := by decide +kernel
theorem zws7 : ∀ k, k < 14 → lw_tbl[([249, 251, 253, 255, 257, 259, 261, 263, 265, 267, 269, 271, 273, 275] : List Nat).getD k 0]? = some (u_lay RX7 TX7 k) ∧ goodWord (u_lay RX7 TX7 k) = true := by decide +kernel
theorem zc7 : zClsO 7 RX7 RX7 TX7 14 tyX7 := ⟨rfl, fun w hw => by
  obtain ⟨k, hk, rfl⟩ := List.mem_map.mp hw
  have h := zws7 k (List.mem_range.mp hk)
  exact gw_in _ h.1 h.2, tyX7_ok, nmX7, by decide +kernel⟩
theorem zd7 : ∀ j, j < 14 → defaultValue (tyX7 j) = vp_V [.null, .null, .int 0, .int 0, .int 0, .int 0, .int 0, .int 0, .int 0, .null, .null, .int 0, .int 0, .int 0] j := by decide +kernel
theorem zws8 : ∀ k, k < 6 → lw_tbl[([332, 334, 336, 338, 340, 342] : List Nat).getD k 0]? = some (u_lay RX8 TX8 k) ∧ goodWord (u_lay RX8 TX8 k) = true := by decide +kernel
theorem zc8 : zClsO 8 RX8 RX8 TX8 6 tyX8 := ⟨rfl, fun w hw => by
  obtain ⟨k, hk, rfl⟩ := List.mem_map.mp hw
  have h := zws8 k (List.mem_range.mp hk)
  exact gw_in _ h.1 h.2, tyX8_ok, nmX8, by decide +kernel⟩
theorem zd8 : ∀ j, j < 6 → defaultValue (tyX8 j) = vp_V [.null, .null, .null, .null, .null, .int 0] j := by decide +kernel
theorem zws9 : ∀ k, k < 3 → lw_tbl[([402, 404, 406] : List Nat).getD k 0]? = some (u_lay RX9 TX9 k) ∧ goodWord (u_lay RX9 TX9 k) = true := by decide +kernel
theorem zc9 : zClsO 9 RX9 RX9 TX9 3 tyX9 := ⟨rfl, fun w hw => by
  obtain ⟨k, hk, rfl⟩ := List.mem_map.mp hw
  have h := zws9 k (List.mem_range.mp hk)
  exact gw_in _ h.1 h.2, tyX9_ok, nmX9, by decide +kernel⟩
theorem zd9 : ∀ j, j < 3 → defaultValue (tyX9 j) = vp_V [.int 0, .null, .int 0] j := by decide +kernel
theorem zws10 : ∀ k, k < 4 → lw_tbl[([1242, 1244, 1246, 1248] : List Nat).getD k 0]? = some (u_lay RX10 TX10 k) ∧ goodWord (u_lay RX10 TX10 k) = true := by decide +kernel
theorem zc10 : zClsO 10 RX10 RX10 TX10 4 tyX10 := ⟨rfl, fun w hw => by
  obtain ⟨k, hk, rfl⟩ := List.mem_map.mp hw
  have h := zws10 k (List.mem_range.mp hk)
  exact gw_in _ h.1 h.2, tyX10_ok, nmX10, by decide +kernel⟩
theorem zd10 : ∀ j, j < 4 → defaultValue (tyX10 j) = vp_V [.int 0, .int 0, .null, .null] j := by decide +kernel
theorem zws11 : ∀ k, k < 1 → lw_tbl[([416] : List Nat).getD k 0]? = some (u_lay RX11 TX11 k) ∧ goodWord (u_lay RX11 TX11 k) = true := by decide +kernel
theorem zc11 : zClsO 11 RX11 RX11 TX11 1 tyX11 := ⟨rfl, fun w hw => by
  obtain ⟨k, hk, rfl⟩ := List.mem_map.mp hw
  have h := zws11 k (List.mem_range.mp hk)
  exact gw_in _ h.1 h.2, tyX11_ok, nmX11, by decide +kernel⟩
theorem zd11 : ∀ j, j < 1 → defaultValue (tyX11 j) = vp_V [.int 0] j := by decide +kernel
theorem zws12 : ∀ k, k < 12 → lw_tbl[([454, 456, 458, 460, 462, 464, 466, 468, 470, 472, 474, 476] : List Nat).getD k 0]? = some (u_lay RX12 TX12 k) ∧ goodWord (u_lay RX12 TX12 k) = true := by decide +kernel
theorem zc12 : zClsO 12 RX12 RX12 TX12 12 tyX12 := ⟨rfl, fun w hw => by
  obtain ⟨k, hk, rfl⟩ := List.mem_map.mp hw
  have h := zws12 k (List.mem_range.mp hk)
  exact gw_in _ h.1 h.2, tyX12_ok, nmX12, by decide +kernel⟩
theorem zd12 : ∀ j, j < 12 → defaultValue (tyX12 j) = vp_V [.int 0, .null, .null, .null, .null, .int 0, .int 0, .null, .int 0, .int 0, .int 0, .null] j := by decide +kernel
theorem zws13 : ∀ k, k < 4 → lw_tbl[([1472, 1474, 1476, 1478] : List Nat).getD k 0]? = some (u_lay RJ0 TJ0 k) ∧ goodWord (u_lay RJ0 TJ0 k) = true := by decide +kernel
theorem zc13 : zClsO 13 RJ0 RJ0 TJ0 4 tyJ0 := ⟨rfl, fun w hw => by
  obtain ⟨k, hk, rfl⟩ := List.mem_map.mp hw
  have h := zws13 k (List.mem_range.mp hk)
  exact gw_in _ h.1 h.2, tyJ0_ok, nmJ0, by decide +kernel⟩
theorem zd13 : ∀ j, j < 4 → defaultValue (tyJ0 j) = vp_V [.null, .int 0, .int 0, .int 0] j := by decide +kernel
theorem zws14 : ∀ k, k < 4 → lw_tbl[([1279, 1281, 1283, 1285] : List Nat).getD k 0]? = some (u_lay RJ4 TJ4 k) ∧ goodWord (u_lay RJ4 TJ4 k) = true := by decide +kernel
theorem zc14 : zClsO 14 RJ4 RJ5 TJ4 4 tyJ4 := ⟨rfl, fun w hw => by
  obtain ⟨k, hk, rfl⟩ := List.mem_map.mp hw
  have h := zws14 k (List.mem_range.mp hk)
  exact gw_in _ h.1 h.2, tyJ4_ok, nmJ4, by decide +kernel⟩
theorem zd14 : ∀ j, j < 4 → defaultValue (tyJ4 j) = vp_V [.null, .int 0, .int 0, .int 0] j := by decide +kernel
/-! methods -/
def m_J6_bitCount_0f7a4 : zX := (yJ6_bitCount_0f7a4, cJ6_bitCount_0f7a4, 1, some .int, [])
theorem wm_J6_bitCount_0f7a4 : Cond.code m_J6_bitCount_0f7a4.1 (zcc m_J6_bitCount_0f7a4) (zml m_J6_bitCount_0f7a4) (zrt m_J6_bitCount_0f7a4) ∈ GW := gw_in 87 (by decide +kernel) rfl
def m_X2_init : zX := (yX2_init, cX2_init, 8, none, [])
theorem wm_X2_init : Cond.code m_X2_init.1 (zcc m_X2_init) (zml m_X2_init) (zrt m_X2_init) ∈ GW := gw_in 83 (by decide +kernel) rfl
def m_J9_max_7cf53 : zX := (yJ9_max_7cf53, cJ9_max_7cf53, 2, some .int, [])
theorem wm_J9_max_7cf53 : Cond.code m_J9_max_7cf53.1 (zcc m_J9_max_7cf53) (zml m_J9_max_7cf53) (zrt m_J9_max_7cf53) ∈ GW := gw_in 113 (by decide +kernel) rfl
def m_X6_init : zX := (yX6_init, cX6_init, 2, none, [])
theorem wm_X6_init : Cond.code m_X6_init.1 (zcc m_X6_init) (zml m_X6_init) (zrt m_X6_init) ∈ GW := gw_in 109 (by decide +kernel) rfl
def m_X1_init : zX := (yX1_init, cX1_init, 1, none, [])
theorem wm_X1_init : Cond.code m_X1_init.1 (zcc m_X1_init) (zml m_X1_init) (zrt m_X1_init) ∈ GW := gw_in 132 (by decide +kernel) rfl
def m_X5_init : zX := (yX5_init, cX5_init, 2, none, [])
theorem wm_X5_init : Cond.code m_X5_init.1 (zcc m_X5_init) (zml m_X5_init) (zrt m_X5_init) ∈ GW := gw_in 165 (by decide +kernel) rfl
def m_X0_init : zX := (yX0_init, cX0_init, 3, none, [])
theorem wm_X0_init : Cond.code m_X0_init.1 (zcc m_X0_init) (zml m_X0_init) (zrt m_X0_init) ∈ GW := gw_in 125 (by decide +kernel) rfl
def m_X7_init : zX := (yX7_init, cX7_init, 2, none, [])
theorem wm_X7_init : Cond.code m_X7_init.1 (zcc m_X7_init) (zml m_X7_init) (zrt m_X7_init) ∈ GW := gw_in 103 (by decide +kernel) rfl
def m_X4_init : zX := (yX4_init, cX4_init, 3, none, [])
theorem wm_X4_init : Cond.code m_X4_init.1 (zcc m_X4_init) (zml m_X4_init) (zrt m_X4_init) ∈ GW := gw_in 284 (by decide +kernel) rfl
def m_X3_init : zX := (yX3_init, cX3_init, 2, none, [])
theorem wm_X3_init : Cond.code m_X3_init.1 (zcc m_X3_init) (zml m_X3_init) (zrt m_X3_init) ∈ GW := gw_in 303 (by decide +kernel) rfl
def m_X8_init : zX := (yX8_init, cX8_init, 1, none, [])
theorem wm_X8_init : Cond.code m_X8_init.1 (zcc m_X8_init) (zml m_X8_init) (zrt m_X8_init) ∈ GW := gw_in 75 (by decide +kernel) rfl
def m_X11_init : zX := (yX11_init, cX11_init, 2, none, [])
theorem wm_X11_init : Cond.code m_X11_init.1 (zcc m_X11_init) (zml m_X11_init) (zrt m_X11_init) ∈ GW := gw_in 413 (by decide +kernel) rfl
def m_X12_init : zX := (yX12_init, cX12_init, 1, none, [])
theorem wm_X12_init : Cond.code m_X12_init.1 (zcc m_X12_init) (zml m_X12_init) (zrt m_X12_init) ∈ GW := gw_in 428 (by decide +kernel) rfl
def m_X6_size : zX := (yX6_size, cX6_size, 1, some .int, [])
theorem wm_X6_size : Cond.code m_X6_size.1 (zcc m_X6_size) (zml m_X6_size) (zrt m_X6_size) ∈ GW := gw_in 947 (by decide +kernel) rfl
def m_X6_holds : zX := (yX6_holds, cX6_holds, 2, some .boolean, [])
theorem wm_X6_holds : Cond.code m_X6_holds.1 (zcc m_X6_holds) (zml m_X6_holds) (zrt m_X6_holds) ∈ GW := gw_in 898 (by decide +kernel) rfl
def m_X0_isOver : zX := (yX0_isOver, cX0_isOver, 1, some .boolean, [])
theorem wm_X0_isOver : Cond.code m_X0_isOver.1 (zcc m_X0_isOver) (zml m_X0_isOver) (zrt m_X0_isOver) ∈ GW := gw_in 1087 (by decide +kernel) rfl
def m_X8_state : zX := (yX8_state, cX8_state, 2, some .int, [])
theorem wm_X8_state : Cond.code m_X8_state.1 (zcc m_X8_state) (zml m_X8_state) (zrt m_X8_state) ∈ GW := gw_in 1505 (by decide +kernel) rfl
def m_X0_bidder : zX := (yX0_bidder, cX0_bidder, 2, some (.object "GroupBids$Bidder"), [])
theorem wm_X0_bidder : Cond.code m_X0_bidder.1 (zcc m_X0_bidder) (zml m_X0_bidder) (zrt m_X0_bidder) ∈ GW := gw_in 774 (by decide +kernel) rfl
def m_X8_existing : zX := (yX8_existing, cX8_existing, 3, some (.object "GroupBids$Bidder"), [])
theorem wm_X8_existing : Cond.code m_X8_existing.1 (zcc m_X8_existing) (zml m_X8_existing) (zrt m_X8_existing) ∈ GW := gw_in 878 (by decide +kernel) rfl
def m_X8_player : zX := (yX8_player, cX8_player, 4, some .int, [])
theorem wm_X8_player : Cond.code m_X8_player.1 (zcc m_X8_player) (zml m_X8_player) (zrt m_X8_player) ∈ GW := gw_in 1513 (by decide +kernel) rfl
def m_X6_at : zX := (yX6_at, cX6_at, 2, some .int, [])
theorem wm_X6_at : Cond.code m_X6_at.1 (zcc m_X6_at) (zml m_X6_at) (zrt m_X6_at) ∈ GW := gw_in 917 (by decide +kernel) rfl
def m_X2_goal : zX := (yX2_goal, cX2_goal, 3, some .int, [])
theorem wm_X2_goal : Cond.code m_X2_goal.1 (zcc m_X2_goal) (zml m_X2_goal) (zrt m_X2_goal) ∈ GW := gw_in 930 (by decide +kernel) rfl
def m_X2_toNumber : zX := (yX2_toNumber, cX2_toNumber, 5, some .int, [])
theorem wm_X2_toNumber : Cond.code m_X2_toNumber.1 (zcc m_X2_toNumber) (zml m_X2_toNumber) (zrt m_X2_toNumber) ∈ GW := gw_in 926 (by decide +kernel) rfl
def m_X8_numberOf : zX := (yX8_numberOf, cX8_numberOf, 2, some .int, [])
theorem wm_X8_numberOf : Cond.code m_X8_numberOf.1 (zcc m_X8_numberOf) (zml m_X8_numberOf) (zrt m_X8_numberOf) ∈ GW := gw_in 922 (by decide +kernel) rfl
def m_X2_longerKey : zX := (yX2_longerKey, cX2_longerKey, 3, some .int, [])
theorem wm_X2_longerKey : Cond.code m_X2_longerKey.1 (zcc m_X2_longerKey) (zml m_X2_longerKey) (zrt m_X2_longerKey) ∈ GW := gw_in 790 (by decide +kernel) rfl
def m_X2_withKey : zX := (yX2_withKey, cX2_withKey, 2, some .int, [])
theorem wm_X2_withKey : Cond.code m_X2_withKey.1 (zcc m_X2_withKey) (zml m_X2_withKey) (zrt m_X2_withKey) ∈ GW := gw_in 794 (by decide +kernel) rfl
def m_X2_times : zX := (yX2_times, cX2_times, 5, some .int, [])
theorem wm_X2_times : Cond.code m_X2_times.1 (zcc m_X2_times) (zml m_X2_times) (zrt m_X2_times) ∈ GW := gw_in 943 (by decide +kernel) rfl
def m_X2_period : zX := (yX2_period, cX2_period, 4, some .int, [])
theorem wm_X2_period : Cond.code m_X2_period.1 (zcc m_X2_period) (zml m_X2_period) (zrt m_X2_period) ∈ GW := gw_in 939 (by decide +kernel) rfl
def m_J9_min_f86c9 : zX := (yJ9_min_f86c9, cJ9_min_f86c9, 4, some .long, [])
theorem wm_J9_min_f86c9 : Cond.code m_J9_min_f86c9.1 (zcc m_J9_min_f86c9) (zml m_J9_min_f86c9) (zrt m_J9_min_f86c9) ∈ GW := gw_in 522 (by decide +kernel) rfl
def m_J9_max_f86c9 : zX := (yJ9_max_f86c9, cJ9_max_f86c9, 4, some .long, [])
theorem wm_J9_max_f86c9 : Cond.code m_J9_max_f86c9.1 (zcc m_J9_max_f86c9) (zml m_J9_max_f86c9) (zrt m_J9_max_f86c9) ∈ GW := gw_in 525 (by decide +kernel) rfl
def m_X5_result : zX := (yX5_result, cX5_result, 7, some .long, [])
theorem wm_X5_result : Cond.code m_X5_result.1 (zcc m_X5_result) (zml m_X5_result) (zrt m_X5_result) ∈ GW := gw_in 954 (by decide +kernel) rfl
def m_X5_operand : zX := (yX5_operand, cX5_operand, 5, some .int, [])
theorem wm_X5_operand : Cond.code m_X5_operand.1 (zcc m_X5_operand) (zml m_X5_operand) (zrt m_X5_operand) ∈ GW := gw_in 961 (by decide +kernel) rfl
def m_X5_price : zX := (yX5_price, cX5_price, 8, some .int, [])
theorem wm_X5_price : Cond.code m_X5_price.1 (zcc m_X5_price) (zml m_X5_price) (zrt m_X5_price) ∈ GW := gw_in 951 (by decide +kernel) rfl
def m_X0_priceOf : zX := (yX0_priceOf, cX0_priceOf, 4, some .int, [])
theorem wm_X0_priceOf : Cond.code m_X0_priceOf.1 (zcc m_X0_priceOf) (zml m_X0_priceOf) (zrt m_X0_priceOf) ∈ GW := gw_in 934 (by decide +kernel) rfl
def m_X8_card : zX := (yX8_card, cX8_card, 5, some .int, [])
theorem wm_X8_card : Cond.code m_X8_card.1 (zcc m_X8_card) (zml m_X8_card) (zrt m_X8_card) ∈ GW := gw_in 874 (by decide +kernel) rfl
def m_X8_withPlayer : zX := (yX8_withPlayer, cX8_withPlayer, 9, some .long, [])
theorem wm_X8_withPlayer : Cond.code m_X8_withPlayer.1 (zcc m_X8_withPlayer) (zml m_X8_withPlayer) (zrt m_X8_withPlayer) ∈ GW := gw_in 1509 (by decide +kernel) rfl
def m_X8_bid : zX := (yX8_bid, cX8_bid, 3, some .int, [])
theorem wm_X8_bid : Cond.code m_X8_bid.1 (zcc m_X8_bid) (zml m_X8_bid) (zrt m_X8_bid) ∈ GW := gw_in 1518 (by decide +kernel) rfl
def m_X0_productOfBids : zX := (yX0_productOfBids, cX0_productOfBids, 5, some .int, [])
theorem wm_X0_productOfBids : Cond.code m_X0_productOfBids.1 (zcc m_X0_productOfBids) (zml m_X0_productOfBids) (zrt m_X0_productOfBids) ∈ GW := gw_in 976 (by decide +kernel) rfl
def m_X8_product : zX := (yX8_product, cX8_product, 1, some .int, [])
theorem wm_X8_product : Cond.code m_X8_product.1 (zcc m_X8_product) (zml m_X8_product) (zrt m_X8_product) ∈ GW := gw_in 1522 (by decide +kernel) rfl
def m_X8_checksum : zX := (yX8_checksum, cX8_checksum, 5, some .long, [])
theorem wm_X8_checksum : Cond.code m_X8_checksum.1 (zcc m_X8_checksum) (zml m_X8_checksum) (zrt m_X8_checksum) ∈ GW := gw_in 1500 (by decide +kernel) rfl
def m_X12_isOver : zX := (yX12_isOver, cX12_isOver, 1, some .boolean, [])
theorem wm_X12_isOver : Cond.code m_X12_isOver.1 (zcc m_X12_isOver) (zml m_X12_isOver) (zrt m_X12_isOver) ∈ GW := gw_in 495 (by decide +kernel) rfl
def m_X12_told : zX := (yX12_told, cX12_told, 2, some .int, [])
theorem wm_X12_told : Cond.code m_X12_told.1 (zcc m_X12_told) (zml m_X12_told) (zrt m_X12_told) ∈ GW := gw_in 1531 (by decide +kernel) rfl
def m_L_number : zX := (yL_number, cL_number, 6, some .int, [])
theorem wm_L_number : Cond.code m_L_number.1 (zcc m_L_number) (zml m_L_number) (zrt m_L_number) ∈ GW := gw_in 1182 (by decide +kernel) rfl
def m_L_isNeutral : zX := (yL_isNeutral, cL_isNeutral, 3, some .boolean, [])
theorem wm_L_isNeutral : Cond.code m_L_isNeutral.1 (zcc m_L_isNeutral) (zml m_L_isNeutral) (zrt m_L_isNeutral) ∈ GW := gw_in 509 (by decide +kernel) rfl
def m_L_times : zX := (yL_times, cL_times, 4, some (.array .int), [])
theorem wm_L_times : Cond.code m_L_times.1 (zcc m_L_times) (zml m_L_times) (zrt m_L_times) ∈ GW := gw_in 512 (by decide +kernel) rfl
def m_L_orderOf : zX := (yL_orderOf, cL_orderOf, 3, some .int, [])
theorem wm_L_orderOf : Cond.code m_L_orderOf.1 (zcc m_L_orderOf) (zml m_L_orderOf) (zrt m_L_orderOf) ∈ GW := gw_in 506 (by decide +kernel) rfl
def m_X10_value : zX := (yX10_value, cX10_value, 8, some .long, [])
theorem wm_X10_value : Cond.code m_X10_value.1 (zcc m_X10_value) (zml m_X10_value) (zrt m_X10_value) ∈ GW := gw_in 516 (by decide +kernel) rfl
def m_X12_price : zX := (yX12_price, cX12_price, 4, some .int, [])
theorem wm_X12_price : Cond.code m_X12_price.1 (zcc m_X12_price) (zml m_X12_price) (zrt m_X12_price) ∈ GW := gw_in 503 (by decide +kernel) rfl
def m_L_neutral : zX := (yL_neutral, cL_neutral, 3, some (.array .int), [])
theorem wm_L_neutral : Cond.code m_L_neutral.1 (zcc m_L_neutral) (zml m_L_neutral) (zrt m_L_neutral) ∈ GW := gw_in 546 (by decide +kernel) rfl
def m_X12_product : zX := (yX12_product, cX12_product, 5, some (.array .int), [])
theorem wm_X12_product : Cond.code m_X12_product.1 (zcc m_X12_product) (zml m_X12_product) (zrt m_X12_product) ∈ GW := gw_in 543 (by decide +kernel) rfl
def m_X12_sum : zX := (yX12_sum, cX12_sum, 8, some .long, [])
theorem wm_X12_sum : Cond.code m_X12_sum.1 (zcc m_X12_sum) (zml m_X12_sum) (zrt m_X12_sum) ∈ GW := gw_in 1526 (by decide +kernel) rfl
def m_L_state : zX := (yL_state, cL_state, 3, some .int, [(0, 5, 6, 40)])
theorem wm_L_state : Cond.codeWith m_L_state.1 (zcc m_L_state) (zml m_L_state) (zrt m_L_state) (zhh m_L_state) ∈ GW := gw_in 1538 (by decide +kernel) rfl
def m_L_player : zX := (yL_player, cL_player, 4, some .int, [(0, 6, 7, 50), (0, 6, 11, 40)])
theorem wm_L_player : Cond.codeWith m_L_player.1 (zcc m_L_player) (zml m_L_player) (zrt m_L_player) (zhh m_L_player) ∈ GW := gw_in 1543 (by decide +kernel) rfl
def m_L_card : zX := (yL_card, cL_card, 5, some .int, [(0, 7, 8, 50), (0, 7, 13, 57), (0, 7, 18, 40)])
theorem wm_L_card : Cond.codeWith m_L_card.1 (zcc m_L_card) (zml m_L_card) (zrt m_L_card) (zhh m_L_card) ∈ GW := gw_in 868 (by decide +kernel) rfl
def m_L_bid : zX := (yL_bid, cL_bid, 4, some .int, [(0, 6, 7, 57), (0, 6, 11, 40)])
theorem wm_L_bid : Cond.codeWith m_L_bid.1 (zcc m_L_bid) (zml m_L_bid) (zrt m_L_bid) (zhh m_L_bid) ∈ GW := gw_in 1548 (by decide +kernel) rfl
def m_L_agrees : zX := (yL_agrees, cL_agrees, 5, some .boolean, [])
theorem wm_L_agrees : Cond.code m_L_agrees.1 (zcc m_L_agrees) (zml m_L_agrees) (zrt m_L_agrees) ∈ GW := gw_in 1496 (by decide +kernel) rfl
def m_X8_errorOffset : zX := (yX8_errorOffset, cX8_errorOffset, 1, some .int, [])
theorem wm_X8_errorOffset : Cond.code m_X8_errorOffset.1 (zcc m_X8_errorOffset) (zml m_X8_errorOffset) (zrt m_X8_errorOffset) ∈ GW := gw_in 348 (by decide +kernel) rfl
def m_X4_size : zX := (yX4_size, cX4_size, 1, some .int, [])
theorem wm_X4_size : Cond.code m_X4_size.1 (zcc m_X4_size) (zml m_X4_size) (zrt m_X4_size) ∈ GW := gw_in 356 (by decide +kernel) rfl
def m_J9_floorMod_7cf53 : zX := (yJ9_floorMod_7cf53, cJ9_floorMod_7cf53, 3, some .int, [])
theorem wm_J9_floorMod_7cf53 : Cond.code m_J9_floorMod_7cf53.1 (zcc m_J9_floorMod_7cf53) (zml m_J9_floorMod_7cf53) (zrt m_J9_floorMod_7cf53) ∈ GW := gw_in 367 (by decide +kernel) rfl
def m_X4_placeOf : zX := (yX4_placeOf, cX4_placeOf, 2, some .int, [])
theorem wm_X4_placeOf : Cond.code m_X4_placeOf.1 (zcc m_X4_placeOf) (zml m_X4_placeOf) (zrt m_X4_placeOf) ∈ GW := gw_in 364 (by decide +kernel) rfl
def m_J9_min_7cf53 : zX := (yJ9_min_7cf53, cJ9_min_7cf53, 2, some .int, [])
theorem wm_J9_min_7cf53 : Cond.code m_J9_min_7cf53.1 (zcc m_J9_min_7cf53) (zml m_J9_min_7cf53) (zrt m_J9_min_7cf53) ∈ GW := gw_in 382 (by decide +kernel) rfl
def m_X6_copyFrom : zX := (yX6_copyFrom, cX6_copyFrom, 3, none, [])
theorem wm_X6_copyFrom : Cond.code m_X6_copyFrom.1 (zcc m_X6_copyFrom) (zml m_X6_copyFrom) (zrt m_X6_copyFrom) ∈ GW := gw_in 379 (by decide +kernel) rfl
def m_X1_copyFrom : zX := (yX1_copyFrom, cX1_copyFrom, 2, none, [])
theorem wm_X1_copyFrom : Cond.code m_X1_copyFrom.1 (zcc m_X1_copyFrom) (zml m_X1_copyFrom) (zrt m_X1_copyFrom) ∈ GW := gw_in 375 (by decide +kernel) rfl
def m_X0_copyFrom : zX := (yX0_copyFrom, cX0_copyFrom, 3, none, [])
theorem wm_X0_copyFrom : Cond.code m_X0_copyFrom.1 (zcc m_X0_copyFrom) (zml m_X0_copyFrom) (zrt m_X0_copyFrom) ∈ GW := gw_in 371 (by decide +kernel) rfl
def m_X4_bringBack : zX := (yX4_bringBack, cX4_bringBack, 2, none, [])
theorem wm_X4_bringBack : Cond.code m_X4_bringBack.1 (zcc m_X4_bringBack) (zml m_X4_bringBack) (zrt m_X4_bringBack) ∈ GW := gw_in 360 (by decide +kernel) rfl
def m_X8_undo : zX := (yX8_undo, cX8_undo, 1, some .int, [])
theorem wm_X8_undo : Cond.code m_X8_undo.1 (zcc m_X8_undo) (zml m_X8_undo) (zrt m_X8_undo) ∈ GW := gw_in 352 (by decide +kernel) rfl
def m_X8_bidderInTurn : zX := (yX8_bidderInTurn, cX8_bidderInTurn, 2, some (.object "GroupBids$Bidder"), [])
theorem wm_X8_bidderInTurn : Cond.code m_X8_bidderInTurn.1 (zcc m_X8_bidderInTurn) (zml m_X8_bidderInTurn) (zrt m_X8_bidderInTurn) ∈ GW := gw_in 1083 (by decide +kernel) rfl
def m_X4_remember : zX := (yX4_remember, cX4_remember, 2, none, [])
theorem wm_X4_remember : Cond.code m_X4_remember.1 (zcc m_X4_remember) (zml m_X4_remember) (zrt m_X4_remember) ∈ GW := gw_in 858 (by decide +kernel) rfl
def m_X6_isFull : zX := (yX6_isFull, cX6_isFull, 1, some .boolean, [])
theorem wm_X6_isFull : Cond.code m_X6_isFull.1 (zcc m_X6_isFull) (zml m_X6_isFull) (zrt m_X6_isFull) ∈ GW := gw_in 778 (by decide +kernel) rfl
def m_X6_push : zX := (yX6_push, cX6_push, 2, none, [])
theorem wm_X6_push : Cond.code m_X6_push.1 (zcc m_X6_push) (zml m_X6_push) (zrt m_X6_push) ∈ GW := gw_in 802 (by decide +kernel) rfl
def m_X6_remove : zX := (yX6_remove, cX6_remove, 3, none, [])
theorem wm_X6_remove : Cond.code m_X6_remove.1 (zcc m_X6_remove) (zml m_X6_remove) (zrt m_X6_remove) ∈ GW := gw_in 1119 (by decide +kernel) rfl
def m_X1_dropCard : zX := (yX1_dropCard, cX1_dropCard, 2, none, [])
theorem wm_X1_dropCard : Cond.code m_X1_dropCard.1 (zcc m_X1_dropCard) (zml m_X1_dropCard) (zrt m_X1_dropCard) ∈ GW := gw_in 1115 (by decide +kernel) rfl
def m_X1_receive : zX := (yX1_receive, cX1_receive, 2, none, [])
theorem wm_X1_receive : Cond.code m_X1_receive.1 (zcc m_X1_receive) (zml m_X1_receive) (zrt m_X1_receive) ∈ GW := gw_in 1127 (by decide +kernel) rfl
def m_X6_clear : zX := (yX6_clear, cX6_clear, 1, none, [])
theorem wm_X6_clear : Cond.code m_X6_clear.1 (zcc m_X6_clear) (zml m_X6_clear) (zrt m_X6_clear) ∈ GW := gw_in 655 (by decide +kernel) rfl
def m_X0_clearLot : zX := (yX0_clearLot, cX0_clearLot, 1, none, [])
theorem wm_X0_clearLot : Cond.code m_X0_clearLot.1 (zcc m_X0_clearLot) (zml m_X0_clearLot) (zrt m_X0_clearLot) ∈ GW := gw_in 659 (by decide +kernel) rfl
def m_X0_openNextLot : zX := (yX0_openNextLot, cX0_openNextLot, 1, none, [])
theorem wm_X0_openNextLot : Cond.code m_X0_openNextLot.1 (zcc m_X0_openNextLot) (zml m_X0_openNextLot) (zrt m_X0_openNextLot) ∈ GW := gw_in 1134 (by decide +kernel) rfl
def m_X0_turnToNext : zX := (yX0_turnToNext, cX0_turnToNext, 1, none, [])
theorem wm_X0_turnToNext : Cond.code m_X0_turnToNext.1 (zcc m_X0_turnToNext) (zml m_X0_turnToNext) (zrt m_X0_turnToNext) ∈ GW := gw_in 1138 (by decide +kernel) rfl
def m_X0_endMove : zX := (yX0_endMove, cX0_endMove, 4, some .int, [])
theorem wm_X0_endMove : Cond.code m_X0_endMove.1 (zcc m_X0_endMove) (zml m_X0_endMove) (zrt m_X0_endMove) ∈ GW := gw_in 1123 (by decide +kernel) rfl
def m_X0_playCard : zX := (yX0_playCard, cX0_playCard, 4, some .int, [])
theorem wm_X0_playCard : Cond.code m_X0_playCard.1 (zcc m_X0_playCard) (zml m_X0_playCard) (zrt m_X0_playCard) ∈ GW := gw_in 1107 (by decide +kernel) rfl
def m_X8_play : zX := (yX8_play, cX8_play, 2, some .int, [])
theorem wm_X8_play : Cond.code m_X8_play.1 (zcc m_X8_play) (zml m_X8_play) (zrt m_X8_play) ∈ GW := gw_in 1079 (by decide +kernel) rfl
def m_L_play : zX := (yL_play, cL_play, 3, some .int, [(0, 5, 6, 97), (0, 5, 10, 57)])
theorem wm_L_play : Cond.codeWith m_L_play.1 (zcc m_L_play) (zml m_L_play) (zrt m_L_play) (zhh m_L_play) ∈ GW := gw_in 1074 (by decide +kernel) rfl
def m_X0_passTurn : zX := (yX0_passTurn, cX0_passTurn, 2, some .int, [])
theorem wm_X0_passTurn : Cond.code m_X0_passTurn.1 (zcc m_X0_passTurn) (zml m_X0_passTurn) (zrt m_X0_passTurn) ∈ GW := gw_in 1162 (by decide +kernel) rfl
def m_X8_pass : zX := (yX8_pass, cX8_pass, 1, some .int, [])
theorem wm_X8_pass : Cond.code m_X8_pass.1 (zcc m_X8_pass) (zml m_X8_pass) (zrt m_X8_pass) ∈ GW := gw_in 1158 (by decide +kernel) rfl
def m_L_pass : zX := (yL_pass, cL_pass, 2, some .int, [(0, 4, 5, 97)])
theorem wm_L_pass : Cond.codeWith m_L_pass.1 (zcc m_L_pass) (zml m_L_pass) (zrt m_L_pass) (zhh m_L_pass) ∈ GW := gw_in 1154 (by decide +kernel) rfl
def m_X2_fromNumber : zX := (yX2_fromNumber, cX2_fromNumber, 8, some .int, [])
theorem wm_X2_fromNumber : Cond.code m_X2_fromNumber.1 (zcc m_X2_fromNumber) (zml m_X2_fromNumber) (zrt m_X2_fromNumber) ∈ GW := gw_in 786 (by decide +kernel) rfl
def m_X8_elementOf : zX := (yX8_elementOf, cX8_elementOf, 3, some .int, [])
theorem wm_X8_elementOf : Cond.code m_X8_elementOf.1 (zcc m_X8_elementOf) (zml m_X8_elementOf) (zrt m_X8_elementOf) ∈ GW := gw_in 988 (by decide +kernel) rfl
def m_X1_takeCard : zX := (yX1_takeCard, cX1_takeCard, 3, none, [])
theorem wm_X1_takeCard : Cond.code m_X1_takeCard.1 (zcc m_X1_takeCard) (zml m_X1_takeCard) (zrt m_X1_takeCard) ∈ GW := gw_in 798 (by decide +kernel) rfl
def m_X8_give : zX := (yX8_give, cX8_give, 6, some .int, [])
theorem wm_X8_give : Cond.code m_X8_give.1 (zcc m_X8_give) (zml m_X8_give) (zrt m_X8_give) ∈ GW := gw_in 1169 (by decide +kernel) rfl
def m_L_give : zX := (yL_give, cL_give, 5, some .int, [(0, 7, 8, 50), (0, 7, 13, 40), (0, 7, 18, 97)])
theorem wm_L_give : Cond.codeWith m_L_give.1 (zcc m_L_give) (zml m_L_give) (zrt m_L_give) (zhh m_L_give) ∈ GW := gw_in 1165 (by decide +kernel) rfl
def m_X8_order : zX := (yX8_order, cX8_order, 2, some .int, [])
theorem wm_X8_order : Cond.code m_X8_order.1 (zcc m_X8_order) (zml m_X8_order) (zrt m_X8_order) ∈ GW := gw_in 984 (by decide +kernel) rfl
def m_L_order : zX := (yL_order, cL_order, 3, some .int, [(0, 5, 6, 40)])
theorem wm_L_order : Cond.codeWith m_L_order.1 (zcc m_L_order) (zml m_L_order) (zrt m_L_order) (zhh m_L_order) ∈ GW := gw_in 980 (by decide +kernel) rfl
def m_X11_below : zX := (yX11_below, cX11_below, 2, some .int, [])
theorem wm_X11_below : Cond.code m_X11_below.1 (zcc m_X11_below) (zml m_X11_below) (zrt m_X11_below) ∈ GW := gw_in 422 (by decide +kernel) rfl
def m_X7_hasRoomForFiveWords : zX := (yX7_hasRoomForFiveWords, cX7_hasRoomForFiveWords, 1, some .boolean, [])
theorem wm_X7_hasRoomForFiveWords : Cond.code m_X7_hasRoomForFiveWords.1 (zcc m_X7_hasRoomForFiveWords) (zml m_X7_hasRoomForFiveWords) (zrt m_X7_hasRoomForFiveWords) ∈ GW := gw_in 1214 (by decide +kernel) rfl
def m_X7_addWord : zX := (yX7_addWord, cX7_addWord, 3, none, [])
theorem wm_X7_addWord : Cond.code m_X7_addWord.1 (zcc m_X7_addWord) (zml m_X7_addWord) (zrt m_X7_addWord) ∈ GW := gw_in 1218 (by decide +kernel) rfl
def m_X7_textLength : zX := (yX7_textLength, cX7_textLength, 1, some .int, [])
theorem wm_X7_textLength : Cond.code m_X7_textLength.1 (zcc m_X7_textLength) (zml m_X7_textLength) (zrt m_X7_textLength) ∈ GW := gw_in 578 (by decide +kernel) rfl
def m_X8_append : zX := (yX8_append, cX8_append, 6, some .int, [])
theorem wm_X8_append : Cond.code m_X8_append.1 (zcc m_X8_append) (zml m_X8_append) (zrt m_X8_append) ∈ GW := gw_in 1210 (by decide +kernel) rfl
def m_L_flush : zX := (yL_flush, cL_flush, 3, none, [])
theorem wm_L_flush : Cond.code m_L_flush.1 (zcc m_L_flush) (zml m_L_flush) (zrt m_L_flush) ∈ GW := gw_in 1206 (by decide +kernel) rfl
def m_L_put : zX := (yL_put, cL_put, 3, none, [])
theorem wm_L_put : Cond.code m_L_put.1 (zcc m_L_put) (zml m_L_put) (zrt m_L_put) ∈ GW := gw_in 1203 (by decide +kernel) rfl
def m_L_write : zX := (yL_write, cL_write, 4, none, [])
theorem wm_L_write : Cond.code m_L_write.1 (zcc m_L_write) (zml m_L_write) (zrt m_L_write) ∈ GW := gw_in 1198 (by decide +kernel) rfl
def m_L_writeNumber : zX := (yL_writeNumber, cL_writeNumber, 4, none, [])
theorem wm_L_writeNumber : Cond.code m_L_writeNumber.1 (zcc m_L_writeNumber) (zml m_L_writeNumber) (zrt m_L_writeNumber) ∈ GW := gw_in 1222 (by decide +kernel) rfl
def m_L_writeNumbers : zX := (yL_writeNumbers, cL_writeNumbers, 8, none, [])
theorem wm_L_writeNumbers : Cond.code m_L_writeNumbers.1 (zcc m_L_writeNumbers) (zml m_L_writeNumbers) (zrt m_L_writeNumbers) ∈ GW := gw_in 1195 (by decide +kernel) rfl
def m_L_random : zX := (yL_random, cL_random, 6, some (.array .int), [])
theorem wm_L_random : Cond.code m_L_random.1 (zcc m_L_random) (zml m_L_random) (zrt m_L_random) ∈ GW := gw_in 1185 (by decide +kernel) rfl
def m_X9_init : zX := (yX9_init, cX9_init, 4, none, [])
theorem wm_X9_init : Cond.code m_X9_init.1 (zcc m_X9_init) (zml m_X9_init) (zrt m_X9_init) ∈ GW := gw_in 391 (by decide +kernel) rfl
def m_L_with : zX := (yL_with, cL_with, 4, some (.array (.object "GroupBidsLaw$Card")), [])
theorem wm_L_with : Cond.code m_L_with.1 (zcc m_L_with) (zml m_L_with) (zrt m_L_with) ∈ GW := gw_in 532 (by decide +kernel) rfl
def m_X10_init : zX := (yX10_init, cX10_init, 1, none, [])
theorem wm_X10_init : Cond.code m_X10_init.1 (zcc m_X10_init) (zml m_X10_init) (zrt m_X10_init) ∈ GW := gw_in 1236 (by decide +kernel) rfl
def m_X10_random : zX := (yX10_random, cX10_random, 3, some (.object "GroupBidsLaw$Node"), [])
theorem wm_X10_random : Cond.code m_X10_random.1 (zcc m_X10_random) (zml m_X10_random) (zrt m_X10_random) ∈ GW := gw_in 1231 (by decide +kernel) rfl
def m_J5_init_d00df : zX := (yJ5_init_d00df, cJ5_init_d00df, 2, none, [])
theorem wm_J5_init_d00df : Cond.code m_J5_init_d00df.1 (zcc m_J5_init_d00df) (zml m_J5_init_d00df) (zrt m_J5_init_d00df) ∈ GW := gw_in 1265 (by decide +kernel) rfl
def m_J4_init_da8c8 : zX := (yJ4_init_da8c8, cJ4_init_da8c8, 1, none, [])
theorem wm_J4_init_da8c8 : Cond.code m_J4_init_da8c8.1 (zcc m_J4_init_da8c8) (zml m_J4_init_da8c8) (zrt m_J4_init_da8c8) ∈ GW := gw_in 1262 (by decide +kernel) rfl
def m_J8_newLength_cabcc : zX := (yJ8_newLength_cabcc, cJ8_newLength_cabcc, 4, some .int, [])
theorem wm_J8_newLength_cabcc : Cond.code m_J8_newLength_cabcc.1 (zcc m_J8_newLength_cabcc) (zml m_J8_newLength_cabcc) (zrt m_J8_newLength_cabcc) ∈ GW := gw_in 1310 (by decide +kernel) rfl
def m_J5_newCapacity_0f7a4 : zX := (yJ5_newCapacity_0f7a4, cJ5_newCapacity_0f7a4, 6, some .int, [])
theorem wm_J5_newCapacity_0f7a4 : Cond.code m_J5_newCapacity_0f7a4.1 (zcc m_J5_newCapacity_0f7a4) (zml m_J5_newCapacity_0f7a4) (zrt m_J5_newCapacity_0f7a4) ∈ GW := gw_in 1307 (by decide +kernel) rfl
def m_J7_copyOf_9075b : zX := (yJ7_copyOf_9075b, cJ7_copyOf_9075b, 3, some (.array .byte), [])
theorem wm_J7_copyOf_9075b : Cond.code m_J7_copyOf_9075b.1 (zcc m_J7_copyOf_9075b) (zml m_J7_copyOf_9075b) (zrt m_J7_copyOf_9075b) ∈ GW := gw_in 1319 (by decide +kernel) rfl
def m_J5_ensureCapacityInternal_d00df : zX := (yJ5_ensureCapacityInternal_d00df, cJ5_ensureCapacityInternal_d00df, 3, none, [])
theorem wm_J5_ensureCapacityInternal_d00df : Cond.code m_J5_ensureCapacityInternal_d00df.1 (zcc m_J5_ensureCapacityInternal_d00df) (zml m_J5_ensureCapacityInternal_d00df) (zrt m_J5_ensureCapacityInternal_d00df) ∈ GW := gw_in 1303 (by decide +kernel) rfl
def m_J5_inflateIfNeededFor_a7421 : zX := (yJ5_inflateIfNeededFor_a7421, cJ5_inflateIfNeededFor_a7421, 2, none, [])
theorem wm_J5_inflateIfNeededFor_a7421 : Cond.code m_J5_inflateIfNeededFor_a7421.1 (zcc m_J5_inflateIfNeededFor_a7421) (zml m_J5_inflateIfNeededFor_a7421) (zrt m_J5_inflateIfNeededFor_a7421) ∈ GW := gw_in 1353 (by decide +kernel) rfl
def m_J5_putStringAt_47b60 : zX := (yJ5_putStringAt_47b60, cJ5_putStringAt_47b60, 3, none, [])
theorem wm_J5_putStringAt_47b60 : Cond.code m_J5_putStringAt_47b60.1 (zcc m_J5_putStringAt_47b60) (zml m_J5_putStringAt_47b60) (zrt m_J5_putStringAt_47b60) ∈ GW := gw_in 1349 (by decide +kernel) rfl
def m_J5_append_cf1ce : zX := (yJ5_append_cf1ce, cJ5_append_cf1ce, 3, some (.object "java/lang/AbstractStringBuilder"), [])
theorem wm_J5_append_cf1ce : Cond.code m_J5_append_cf1ce.1 (zcc m_J5_append_cf1ce) (zml m_J5_append_cf1ce) (zrt m_J5_append_cf1ce) ∈ GW := gw_in 1295 (by decide +kernel) rfl
def m_J4_append_15ec4 : zX := (yJ4_append_15ec4, cJ4_append_15ec4, 2, some (.object "java/lang/StringBuilder"), [])
theorem wm_J4_append_15ec4 : Cond.code m_J4_append_15ec4.1 (zcc m_J4_append_15ec4) (zml m_J4_append_15ec4) (zrt m_J4_append_15ec4) ∈ GW := gw_in 1292 (by decide +kernel) rfl
def m_J6_stringSize_0f7a4 : zX := (yJ6_stringSize_0f7a4, cJ6_stringSize_0f7a4, 4, some .int, [])
theorem wm_J6_stringSize_0f7a4 : Cond.code m_J6_stringSize_0f7a4.1 (zcc m_J6_stringSize_0f7a4) (zml m_J6_stringSize_0f7a4) (zrt m_J6_stringSize_0f7a4) ∈ GW := gw_in 1389 (by decide +kernel) rfl
def m_J5_isLatin1_aae02 : zX := (yJ5_isLatin1_aae02, cJ5_isLatin1_aae02, 1, some .boolean, [])
theorem wm_J5_isLatin1_aae02 : Cond.code m_J5_isLatin1_aae02.1 (zcc m_J5_isLatin1_aae02) (zml m_J5_isLatin1_aae02) (zrt m_J5_isLatin1_aae02) ∈ GW := gw_in 1329 (by decide +kernel) rfl
def m_J6_getChars_ba4f3 : zX := (yJ6_getChars_ba4f3, cJ6_getChars_ba4f3, 7, some .int, [])
theorem wm_J6_getChars_ba4f3 : Cond.code m_J6_getChars_ba4f3.1 (zcc m_J6_getChars_ba4f3) (zml m_J6_getChars_ba4f3) (zrt m_J6_getChars_ba4f3) ∈ GW := gw_in 1392 (by decide +kernel) rfl
def m_J5_append_c97b9 : zX := (yJ5_append_c97b9, cJ5_append_c97b9, 4, some (.object "java/lang/AbstractStringBuilder"), [])
theorem wm_J5_append_c97b9 : Cond.code m_J5_append_c97b9.1 (zcc m_J5_append_c97b9) (zml m_J5_append_c97b9) (zrt m_J5_append_c97b9) ∈ GW := gw_in 1386 (by decide +kernel) rfl
def m_J4_append_bf812 : zX := (yJ4_append_bf812, cJ4_append_bf812, 2, some (.object "java/lang/StringBuilder"), [])
theorem wm_J4_append_bf812 : Cond.code m_J4_append_bf812.1 (zcc m_J4_append_bf812) (zml m_J4_append_bf812) (zrt m_J4_append_bf812) ∈ GW := gw_in 1383 (by decide +kernel) rfl
def m_J5_getValue_6d5f1 : zX := (yJ5_getValue_6d5f1, cJ5_getValue_6d5f1, 1, some (.array .byte), [])
theorem wm_J5_getValue_6d5f1 : Cond.code m_J5_getValue_6d5f1.1 (zcc m_J5_getValue_6d5f1) (zml m_J5_getValue_6d5f1) (zrt m_J5_getValue_6d5f1) ∈ GW := gw_in 1422 (by decide +kernel) rfl
def m_J5_length_8abf5 : zX := (yJ5_length_8abf5, cJ5_length_8abf5, 1, some .int, [])
theorem wm_J5_length_8abf5 : Cond.code m_J5_length_8abf5.1 (zcc m_J5_length_8abf5) (zml m_J5_length_8abf5) (zrt m_J5_length_8abf5) ∈ GW := gw_in 1430 (by decide +kernel) rfl
def m_J4_length_8abf5 : zX := (yJ4_length_8abf5, cJ4_length_8abf5, 1, some .int, [])
theorem wm_J4_length_8abf5 : Cond.code m_J4_length_8abf5.1 (zcc m_J4_length_8abf5) (zml m_J4_length_8abf5) (zrt m_J4_length_8abf5) ∈ GW := gw_in 1428 (by decide +kernel) rfl
def m_J7_checkLength_df160 : zX := (yJ7_checkLength_df160, cJ7_checkLength_df160, 2, none, [])
theorem wm_J7_checkLength_df160 : Cond.code m_J7_checkLength_df160.1 (zcc m_J7_checkLength_df160) (zml m_J7_checkLength_df160) (zrt m_J7_checkLength_df160) ∈ GW := gw_in 1440 (by decide +kernel) rfl
def m_J7_copyOfRangeByte_39247 : zX := (yJ7_copyOfRangeByte_39247, cJ7_copyOfRangeByte_39247, 5, some (.array .byte), [])
theorem wm_J7_copyOfRangeByte_39247 : Cond.code m_J7_copyOfRangeByte_39247.1 (zcc m_J7_copyOfRangeByte_39247) (zml m_J7_copyOfRangeByte_39247) (zrt m_J7_copyOfRangeByte_39247) ∈ GW := gw_in 1437 (by decide +kernel) rfl
def m_J7_copyOfRange_39247 : zX := (yJ7_copyOfRange_39247, cJ7_copyOfRange_39247, 3, some (.array .byte), [])
theorem wm_J7_copyOfRange_39247 : Cond.code m_J7_copyOfRange_39247.1 (zcc m_J7_copyOfRange_39247) (zml m_J7_copyOfRange_39247) (zrt m_J7_copyOfRange_39247) ∈ GW := gw_in 1434 (by decide +kernel) rfl
def m_J0_init_db425 : zX := (yJ0_init_db425, cJ0_init_db425, 5, none, [])
theorem wm_J0_init_db425 : Cond.code m_J0_init_db425.1 (zcc m_J0_init_db425) (zml m_J0_init_db425) (zrt m_J0_init_db425) ∈ GW := gw_in 1416 (by decide +kernel) rfl
def m_J0_init_81219 : zX := (yJ0_init_81219, cJ0_init_81219, 2, none, [])
theorem wm_J0_init_81219 : Cond.code m_J0_init_81219.1 (zcc m_J0_init_81219) (zml m_J0_init_81219) (zrt m_J0_init_81219) ∈ GW := gw_in 1413 (by decide +kernel) rfl
def m_J4_toString_0e30d : zX := (yJ4_toString_0e30d, cJ4_toString_0e30d, 1, some (.object "java/lang/String"), [])
theorem wm_J4_toString_0e30d : Cond.code m_J4_toString_0e30d.1 (zcc m_J4_toString_0e30d) (zml m_J4_toString_0e30d) (zrt m_J4_toString_0e30d) ∈ GW := gw_in 1408 (by decide +kernel) rfl
def m_X10_text : zX := (yX10_text, cX10_text, 4, some (.object "java/lang/String"), [])
theorem wm_X10_text : Cond.code m_X10_text.1 (zcc m_X10_text) (zml m_X10_text) (zrt m_X10_text) ∈ GW := gw_in 1257 (by decide +kernel) rfl
def m_X0_start : zX := (yX0_start, cX0_start, 1, none, [])
theorem wm_X0_start : Cond.code m_X0_start.1 (zcc m_X0_start) (zml m_X0_start) (zrt m_X0_start) ∈ GW := gw_in 651 (by decide +kernel) rfl
def m_X7_isDigit : zX := (yX7_isDigit, cX7_isDigit, 1, some .boolean, [])
theorem wm_X7_isDigit : Cond.code m_X7_isDigit.1 (zcc m_X7_isDigit) (zml m_X7_isDigit) (zrt m_X7_isDigit) ∈ GW := gw_in 669 (by decide +kernel) rfl
def m_X7_isLetter : zX := (yX7_isLetter, cX7_isLetter, 1, some .boolean, [])
theorem wm_X7_isLetter : Cond.code m_X7_isLetter.1 (zcc m_X7_isLetter) (zml m_X7_isLetter) (zrt m_X7_isLetter) ∈ GW := gw_in 672 (by decide +kernel) rfl
def m_X7_advance : zX := (yX7_advance, cX7_advance, 3, none, [])
theorem wm_X7_advance : Cond.code m_X7_advance.1 (zcc m_X7_advance) (zml m_X7_advance) (zrt m_X7_advance) ∈ GW := gw_in 666 (by decide +kernel) rfl
def m_X7_isWord : zX := (yX7_isWord, cX7_isWord, 4, some .boolean, [])
theorem wm_X7_isWord : Cond.code m_X7_isWord.1 (zcc m_X7_isWord) (zml m_X7_isWord) (zrt m_X7_isWord) ∈ GW := gw_in 682 (by decide +kernel) rfl
def m_X7_fail : zX := (yX7_fail, cX7_fail, 3, some .boolean, [])
theorem wm_X7_fail : Cond.code m_X7_fail.1 (zcc m_X7_fail) (zml m_X7_fail) (zrt m_X7_fail) ∈ GW := gw_in 734 (by decide +kernel) rfl
def m_X7_takeNumber : zX := (yX7_takeNumber, cX7_takeNumber, 3, some .boolean, [])
theorem wm_X7_takeNumber : Cond.code m_X7_takeNumber.1 (zcc m_X7_takeNumber) (zml m_X7_takeNumber) (zrt m_X7_takeNumber) ∈ GW := gw_in 738 (by decide +kernel) rfl
def m_X7_isSign : zX := (yX7_isSign, cX7_isSign, 2, some .boolean, [])
theorem wm_X7_isSign : Cond.code m_X7_isSign.1 (zcc m_X7_isSign) (zml m_X7_isSign) (zrt m_X7_isSign) ∈ GW := gw_in 746 (by decide +kernel) rfl
def m_X7_takeSign : zX := (yX7_takeSign, cX7_takeSign, 2, some .boolean, [])
theorem wm_X7_takeSign : Cond.code m_X7_takeSign.1 (zcc m_X7_takeSign) (zml m_X7_takeSign) (zrt m_X7_takeSign) ∈ GW := gw_in 742 (by decide +kernel) rfl
def m_X7_takeGroup : zX := (yX7_takeGroup, cX7_takeGroup, 1, some .boolean, [])
theorem wm_X7_takeGroup : Cond.code m_X7_takeGroup.1 (zcc m_X7_takeGroup) (zml m_X7_takeGroup) (zrt m_X7_takeGroup) ∈ GW := gw_in 677 (by decide +kernel) rfl
def m_X1_start : zX := (yX1_start, cX1_start, 2, none, [])
theorem wm_X1_start : Cond.code m_X1_start.1 (zcc m_X1_start) (zml m_X1_start) (zrt m_X1_start) ∈ GW := gw_in 764 (by decide +kernel) rfl
def m_X0_addPlayer : zX := (yX0_addPlayer, cX0_addPlayer, 2, none, [])
theorem wm_X0_addPlayer : Cond.code m_X0_addPlayer.1 (zcc m_X0_addPlayer) (zml m_X0_addPlayer) (zrt m_X0_addPlayer) ∈ GW := gw_in 760 (by decide +kernel) rfl
def m_X7_takePlayer : zX := (yX7_takePlayer, cX7_takePlayer, 1, some .boolean, [])
theorem wm_X7_takePlayer : Cond.code m_X7_takePlayer.1 (zcc m_X7_takePlayer) (zml m_X7_takePlayer) (zrt m_X7_takePlayer) ∈ GW := gw_in 755 (by decide +kernel) rfl
def m_X7_takeElement : zX := (yX7_takeElement, cX7_takeElement, 1, some .boolean, [])
theorem wm_X7_takeElement : Cond.code m_X7_takeElement.1 (zcc m_X7_takeElement) (zml m_X7_takeElement) (zrt m_X7_takeElement) ∈ GW := gw_in 782 (by decide +kernel) rfl
def m_X7_takeCard : zX := (yX7_takeCard, cX7_takeCard, 4, some .boolean, [])
theorem wm_X7_takeCard : Cond.code m_X7_takeCard.1 (zcc m_X7_takeCard) (zml m_X7_takeCard) (zrt m_X7_takeCard) ∈ GW := gw_in 770 (by decide +kernel) rfl
def m_X7_takeLot : zX := (yX7_takeLot, cX7_takeLot, 1, some .boolean, [])
theorem wm_X7_takeLot : Cond.code m_X7_takeLot.1 (zcc m_X7_takeLot) (zml m_X7_takeLot) (zrt m_X7_takeLot) ∈ GW := gw_in 807 (by decide +kernel) rfl
def m_X7_takeVariable : zX := (yX7_takeVariable, cX7_takeVariable, 2, some .boolean, [])
theorem wm_X7_takeVariable : Cond.code m_X7_takeVariable.1 (zcc m_X7_takeVariable) (zml m_X7_takeVariable) (zrt m_X7_takeVariable) ∈ GW := gw_in 829 (by decide +kernel) rfl
def m_X7_takeFactor : zX := (yX7_takeFactor, cX7_takeFactor, 2, some .boolean, [])
theorem wm_X7_takeFactor : Cond.code m_X7_takeFactor.1 (zcc m_X7_takeFactor) (zml m_X7_takeFactor) (zrt m_X7_takeFactor) ∈ GW := gw_in 825 (by decide +kernel) rfl
def m_X7_takeTerm : zX := (yX7_takeTerm, cX7_takeTerm, 5, some .boolean, [])
theorem wm_X7_takeTerm : Cond.code m_X7_takeTerm.1 (zcc m_X7_takeTerm) (zml m_X7_takeTerm) (zrt m_X7_takeTerm) ∈ GW := gw_in 821 (by decide +kernel) rfl
def m_X7_takeSum : zX := (yX7_takeSum, cX7_takeSum, 5, some .boolean, [])
theorem wm_X7_takeSum : Cond.code m_X7_takeSum.1 (zcc m_X7_takeSum) (zml m_X7_takeSum) (zrt m_X7_takeSum) ∈ GW := gw_in 817 (by decide +kernel) rfl
def m_J7_copyOf_59c91 : zX := (yJ7_copyOf_59c91, cJ7_copyOf_59c91, 3, some (.array .int), [])
theorem wm_J7_copyOf_59c91 : Cond.code m_J7_copyOf_59c91.1 (zcc m_J7_copyOf_59c91) (zml m_J7_copyOf_59c91) (zrt m_J7_copyOf_59c91) ∈ GW := gw_in 841 (by decide +kernel) rfl
def m_X6_toArray : zX := (yX6_toArray, cX6_toArray, 1, some (.array .int), [])
theorem wm_X6_toArray : Cond.code m_X6_toArray.1 (zcc m_X6_toArray) (zml m_X6_toArray) (zrt m_X6_toArray) ∈ GW := gw_in 838 (by decide +kernel) rfl
def m_X0_setRule : zX := (yX0_setRule, cX0_setRule, 2, none, [])
theorem wm_X0_setRule : Cond.code m_X0_setRule.1 (zcc m_X0_setRule) (zml m_X0_setRule) (zrt m_X0_setRule) ∈ GW := gw_in 850 (by decide +kernel) rfl
def m_X7_takePrice : zX := (yX7_takePrice, cX7_takePrice, 1, some .boolean, [])
theorem wm_X7_takePrice : Cond.code m_X7_takePrice.1 (zcc m_X7_takePrice) (zml m_X7_takePrice) (zrt m_X7_takePrice) ∈ GW := gw_in 813 (by decide +kernel) rfl
def m_X7_takeStatement : zX := (yX7_takeStatement, cX7_takeStatement, 1, some .boolean, [])
theorem wm_X7_takeStatement : Cond.code m_X7_takeStatement.1 (zcc m_X7_takeStatement) (zml m_X7_takeStatement) (zrt m_X7_takeStatement) ∈ GW := gw_in 750 (by decide +kernel) rfl
def m_X7_read : zX := (yX7_read, cX7_read, 3, some .int, [])
theorem wm_X7_read : Cond.code m_X7_read.1 (zcc m_X7_read) (zml m_X7_read) (zrt m_X7_read) ∈ GW := gw_in 647 (by decide +kernel) rfl
def m_X7_errorPlace : zX := (yX7_errorPlace, cX7_errorPlace, 1, some .int, [])
theorem wm_X7_errorPlace : Cond.code m_X7_errorPlace.1 (zcc m_X7_errorPlace) (zml m_X7_errorPlace) (zrt m_X7_errorPlace) ∈ GW := gw_in 854 (by decide +kernel) rfl
def m_X7_result : zX := (yX7_result, cX7_result, 1, some (.object "GroupBids$Auction"), [])
theorem wm_X7_result : Cond.code m_X7_result.1 (zcc m_X7_result) (zml m_X7_result) (zrt m_X7_result) ∈ GW := gw_in 862 (by decide +kernel) rfl
def m_X8_load : zX := (yX8_load, cX8_load, 3, some .int, [])
theorem wm_X8_load : Cond.code m_X8_load.1 (zcc m_X8_load) (zml m_X8_load) (zrt m_X8_load) ∈ GW := gw_in 574 (by decide +kernel) rfl
def m_L_load : zX := (yL_load, cL_load, 3, some .int, [(0, 5, 6, 40)])
theorem wm_L_load : Cond.codeWith m_L_load.1 (zcc m_L_load) (zml m_L_load) (zrt m_L_load) (zhh m_L_load) ∈ GW := gw_in 569 (by decide +kernel) rfl
def m_L_loadText : zX := (yL_loadText, cL_loadText, 3, some .int, [])
theorem wm_L_loadText : Cond.code m_L_loadText.1 (zcc m_L_loadText) (zml m_L_loadText) (zrt m_L_loadText) ∈ GW := gw_in 1493 (by decide +kernel) rfl
def m_L_randomSale : zX := (yL_randomSale, cL_randomSale, 9, some (.object "GroupBidsLaw$Sale"), [])
theorem wm_L_randomSale : Cond.code m_L_randomSale.1 (zcc m_L_randomSale) (zml m_L_randomSale) (zrt m_L_randomSale) ∈ GW := gw_in 1191 (by decide +kernel) rfl
def m_X12_copy : zX := (yX12_copy, cX12_copy, 3, some (.object "GroupBidsLaw$Sale"), [])
theorem wm_X12_copy : Cond.code m_X12_copy.1 (zcc m_X12_copy) (zml m_X12_copy) (zrt m_X12_copy) ∈ GW := gw_in 482 (by decide +kernel) rfl
def m_L_without : zX := (yL_without, cL_without, 4, some (.array (.object "GroupBidsLaw$Card")), [])
theorem wm_L_without : Cond.code m_L_without.1 (zcc m_L_without) (zml m_L_without) (zrt m_L_without) ∈ GW := gw_in 535 (by decide +kernel) rfl
def m_X8_discard : zX := (yX8_discard, cX8_discard, 5, some .int, [])
theorem wm_X8_discard : Cond.code m_X8_discard.1 (zcc m_X8_discard) (zml m_X8_discard) (zrt m_X8_discard) ∈ GW := gw_in 1178 (by decide +kernel) rfl
def m_L_discard : zX := (yL_discard, cL_discard, 4, some .int, [(0, 6, 7, 50), (0, 6, 11, 57)])
theorem wm_L_discard : Cond.codeWith m_L_discard.1 (zcc m_L_discard) (zml m_L_discard) (zrt m_L_discard) (zhh m_L_discard) ∈ GW := gw_in 1174 (by decide +kernel) rfl
def m_X12_ends : zX := (yX12_ends, cX12_ends, 1, none, [])
theorem wm_X12_ends : Cond.code m_X12_ends.1 (zcc m_X12_ends) (zml m_X12_ends) (zrt m_X12_ends) ∈ GW := gw_in 558 (by decide +kernel) rfl
def m_X12_pass : zX := (yX12_pass, cX12_pass, 2, some .int, [])
theorem wm_X12_pass : Cond.code m_X12_pass.1 (zcc m_X12_pass) (zml m_X12_pass) (zrt m_X12_pass) ∈ GW := gw_in 566 (by decide +kernel) rfl
def m_X12_pay : zX := (yX12_pay, cX12_pay, 3, none, [])
theorem wm_X12_pay : Cond.code m_X12_pay.1 (zcc m_X12_pay) (zml m_X12_pay) (zrt m_X12_pay) ∈ GW := gw_in 552 (by decide +kernel) rfl
def m_X12_finish : zX := (yX12_finish, cX12_finish, 2, some .int, [])
theorem wm_X12_finish : Cond.code m_X12_finish.1 (zcc m_X12_finish) (zml m_X12_finish) (zrt m_X12_finish) ∈ GW := gw_in 539 (by decide +kernel) rfl
def m_X12_cancel : zX := (yX12_cancel, cX12_cancel, 6, some .int, [])
theorem wm_X12_cancel : Cond.code m_X12_cancel.1 (zcc m_X12_cancel) (zml m_X12_cancel) (zrt m_X12_cancel) ∈ GW := gw_in 562 (by decide +kernel) rfl
def m_X0_cancelBid : zX := (yX0_cancelBid, cX0_cancelBid, 8, some .int, [])
theorem wm_X0_cancelBid : Cond.code m_X0_cancelBid.1 (zcc m_X0_cancelBid) (zml m_X0_cancelBid) (zrt m_X0_cancelBid) ∈ GW := gw_in 1150 (by decide +kernel) rfl
def m_X8_cancel : zX := (yX8_cancel, cX8_cancel, 3, some .int, [])
theorem wm_X8_cancel : Cond.code m_X8_cancel.1 (zcc m_X8_cancel) (zml m_X8_cancel) (zrt m_X8_cancel) ∈ GW := gw_in 1146 (by decide +kernel) rfl
def m_L_cancel : zX := (yL_cancel, cL_cancel, 4, some .int, [(0, 6, 7, 97), (0, 6, 11, 57)])
theorem wm_L_cancel : Cond.codeWith m_L_cancel.1 (zcc m_L_cancel) (zml m_L_cancel) (zrt m_L_cancel) (zhh m_L_cancel) ∈ GW := gw_in 1142 (by decide +kernel) rfl
def m_X12_play : zX := (yX12_play, cX12_play, 4, some .int, [])
theorem wm_X12_play : Cond.code m_X12_play.1 (zcc m_X12_play) (zml m_X12_play) (zrt m_X12_play) ∈ GW := gw_in 499 (by decide +kernel) rfl
def m_X8_productOf : zX := (yX8_productOf, cX8_productOf, 3, some .int, [])
theorem wm_X8_productOf : Cond.code m_X8_productOf.1 (zcc m_X8_productOf) (zml m_X8_productOf) (zrt m_X8_productOf) ∈ GW := gw_in 971 (by decide +kernel) rfl
def m_L_productOf : zX := (yL_productOf, cL_productOf, 4, some .int, [(0, 6, 7, 40)])
theorem wm_L_productOf : Cond.codeWith m_L_productOf.1 (zcc m_L_productOf) (zml m_L_productOf) (zrt m_L_productOf) (zhh m_L_productOf) ∈ GW := gw_in 967 (by decide +kernel) rfl
def m_J7_fill_d0a16 : zX := (yJ7_fill_d0a16, cJ7_fill_d0a16, 5, none, [])
theorem wm_J7_fill_d0a16 : Cond.code m_J7_fill_d0a16.1 (zcc m_J7_fill_d0a16) (zml m_J7_fill_d0a16) (zrt m_J7_fill_d0a16) ∈ GW := gw_in 1008 (by decide +kernel) rfl
def m_X2_count : zX := (yX2_count, cX2_count, 4, some .int, [])
theorem wm_X2_count : Cond.code m_X2_count.1 (zcc m_X2_count) (zml m_X2_count) (zrt m_X2_count) ∈ GW := gw_in 1014 (by decide +kernel) rfl
def m_X3_takeHand : zX := (yX3_takeHand, cX3_takeHand, 7, none, [])
theorem wm_X3_takeHand : Cond.code m_X3_takeHand.1 (zcc m_X3_takeHand) (zml m_X3_takeHand) (zrt m_X3_takeHand) ∈ GW := gw_in 1005 (by decide +kernel) rfl
def m_X3_hasRoomFor : zX := (yX3_hasRoomFor, cX3_hasRoomFor, 3, some .boolean, [])
theorem wm_X3_hasRoomFor : Cond.code m_X3_hasRoomFor.1 (zcc m_X3_hasRoomFor) (zml m_X3_hasRoomFor) (zrt m_X3_hasRoomFor) ∈ GW := gw_in 1024 (by decide +kernel) rfl
def m_X3_include : zX := (yX3_include, cX3_include, 3, none, [])
theorem wm_X3_include : Cond.code m_X3_include.1 (zcc m_X3_include) (zml m_X3_include) (zrt m_X3_include) ∈ GW := gw_in 1020 (by decide +kernel) rfl
def m_J13_bitCount_95d88 : zX := (yJ13_bitCount_95d88, cJ13_bitCount_95d88, 2, some .int, [])
theorem wm_J13_bitCount_95d88 : Cond.code m_J13_bitCount_95d88.1 (zcc m_J13_bitCount_95d88) (zml m_J13_bitCount_95d88) (zrt m_J13_bitCount_95d88) ∈ GW := gw_in 1031 (by decide +kernel) rfl
def m_X3_timesCard : zX := (yX3_timesCard, cX3_timesCard, 3, some .int, [])
theorem wm_X3_timesCard : Cond.code m_X3_timesCard.1 (zcc m_X3_timesCard) (zml m_X3_timesCard) (zrt m_X3_timesCard) ∈ GW := gw_in 1038 (by decide +kernel) rfl
def m_X3_extend : zX := (yX3_extend, cX3_extend, 10, none, [])
theorem wm_X3_extend : Cond.code m_X3_extend.1 (zcc m_X3_extend) (zml m_X3_extend) (zrt m_X3_extend) ∈ GW := gw_in 1028 (by decide +kernel) rfl
def m_X3_study : zX := (yX3_study, cX3_study, 5, none, [])
theorem wm_X3_study : Cond.code m_X3_study.1 (zcc m_X3_study) (zml m_X3_study) (zrt m_X3_study) ∈ GW := gw_in 1001 (by decide +kernel) rfl
def m_X3_contains : zX := (yX3_contains, cX3_contains, 3, some .boolean, [])
theorem wm_X3_contains : Cond.code m_X3_contains.1 (zcc m_X3_contains) (zml m_X3_contains) (zrt m_X3_contains) ∈ GW := gw_in 1050 (by decide +kernel) rfl
def m_X3_isReached : zX := (yX3_isReached, cX3_isReached, 3, some .boolean, [])
theorem wm_X3_isReached : Cond.code m_X3_isReached.1 (zcc m_X3_isReached) (zml m_X3_isReached) (zrt m_X3_isReached) ∈ GW := gw_in 1046 (by decide +kernel) rfl
def m_X3_countReached : zX := (yX3_countReached, cX3_countReached, 3, some .int, [])
theorem wm_X3_countReached : Cond.code m_X3_countReached.1 (zcc m_X3_countReached) (zml m_X3_countReached) (zrt m_X3_countReached) ∈ GW := gw_in 1042 (by decide +kernel) rfl
def m_X8_reach : zX := (yX8_reach, cX8_reach, 2, some .int, [])
theorem wm_X8_reach : Cond.code m_X8_reach.1 (zcc m_X8_reach) (zml m_X8_reach) (zrt m_X8_reach) ∈ GW := gw_in 997 (by decide +kernel) rfl
def m_L_reach : zX := (yL_reach, cL_reach, 3, some .int, [(0, 5, 6, 50)])
theorem wm_L_reach : Cond.codeWith m_L_reach.1 (zcc m_L_reach) (zml m_L_reach) (zrt m_L_reach) (zhh m_L_reach) ∈ GW := gw_in 993 (by decide +kernel) rfl
def m_X2_opposite : zX := (yX2_opposite, cX2_opposite, 5, some .int, [])
theorem wm_X2_opposite : Cond.code m_X2_opposite.1 (zcc m_X2_opposite) (zml m_X2_opposite) (zrt m_X2_opposite) ∈ GW := gw_in 1066 (by decide +kernel) rfl
def m_X0_winningElement : zX := (yX0_winningElement, cX0_winningElement, 1, some .int, [])
theorem wm_X0_winningElement : Cond.code m_X0_winningElement.1 (zcc m_X0_winningElement) (zml m_X0_winningElement) (zrt m_X0_winningElement) ∈ GW := gw_in 1061 (by decide +kernel) rfl
def m_X3_fewestCardsFor : zX := (yX3_fewestCardsFor, cX3_fewestCardsFor, 5, some .int, [])
theorem wm_X3_fewestCardsFor : Cond.code m_X3_fewestCardsFor.1 (zcc m_X3_fewestCardsFor) (zml m_X3_fewestCardsFor) (zrt m_X3_fewestCardsFor) ∈ GW := gw_in 1070 (by decide +kernel) rfl
def m_X8_fewest : zX := (yX8_fewest, cX8_fewest, 2, some .int, [])
theorem wm_X8_fewest : Cond.code m_X8_fewest.1 (zcc m_X8_fewest) (zml m_X8_fewest) (zrt m_X8_fewest) ∈ GW := gw_in 1057 (by decide +kernel) rfl
def m_L_fewest : zX := (yL_fewest, cL_fewest, 3, some .int, [(0, 5, 6, 50)])
theorem wm_L_fewest : Cond.codeWith m_L_fewest.1 (zcc m_L_fewest) (zml m_L_fewest) (zrt m_L_fewest) (zhh m_L_fewest) ∈ GW := gw_in 1053 (by decide +kernel) rfl
def m_L_law : zX := (yL_law, cL_law, 25, some .boolean, [])
def m_J3_checkIndex_8e157 : zX := (yJ3_checkIndex_8e157, cJ3_checkIndex_8e157, 3, some .int, [])
theorem wm_J3_checkIndex_8e157 : Cond.code m_J3_checkIndex_8e157.1 (zcc m_J3_checkIndex_8e157) (zml m_J3_checkIndex_8e157) (zrt m_J3_checkIndex_8e157) ∈ GW := gw_in 711 (by decide +kernel) rfl
def m_J0_checkIndex_df160 : zX := (yJ0_checkIndex_df160, cJ0_checkIndex_df160, 2, none, [])
theorem wm_J0_checkIndex_df160 : Cond.code m_J0_checkIndex_df160.1 (zcc m_J0_checkIndex_df160) (zml m_J0_checkIndex_df160) (zrt m_J0_checkIndex_df160) ∈ GW := gw_in 706 (by decide +kernel) rfl
def m_J1_charAt_3b067 : zX := (yJ1_charAt_3b067, cJ1_charAt_3b067, 2, some .char, [])
theorem wm_J1_charAt_3b067 : Cond.code m_J1_charAt_3b067.1 (zcc m_J1_charAt_3b067) (zml m_J1_charAt_3b067) (zrt m_J1_charAt_3b067) ∈ GW := gw_in 703 (by decide +kernel) rfl
def m_J0_isLatin1_aae02 : zX := (yJ0_isLatin1_aae02, cJ0_isLatin1_aae02, 1, some .boolean, [])
theorem wm_J0_isLatin1_aae02 : Cond.code m_J0_isLatin1_aae02.1 (zcc m_J0_isLatin1_aae02) (zml m_J0_isLatin1_aae02) (zrt m_J0_isLatin1_aae02) ∈ GW := gw_in 700 (by decide +kernel) rfl
def m_J0_coder_7d493 : zX := (yJ0_coder_7d493, cJ0_coder_7d493, 1, some .byte, [])
theorem wm_J0_coder_7d493 : Cond.code m_J0_coder_7d493.1 (zcc m_J0_coder_7d493) (zml m_J0_coder_7d493) (zrt m_J0_coder_7d493) ∈ GW := gw_in 690 (by decide +kernel) rfl
def m_J0_length_8abf5 : zX := (yJ0_length_8abf5, cJ0_length_8abf5, 1, some .int, [])
theorem wm_J0_length_8abf5 : Cond.code m_J0_length_8abf5.1 (zcc m_J0_length_8abf5) (zml m_J0_length_8abf5) (zrt m_J0_length_8abf5) ∈ GW := gw_in 686 (by decide +kernel) rfl
def m_J0_charAt_5068e : zX := (yJ0_charAt_5068e, cJ0_charAt_5068e, 2, some .char, [])
theorem wm_J0_charAt_5068e : Cond.code m_J0_charAt_5068e.1 (zcc m_J0_charAt_5068e) (zml m_J0_charAt_5068e) (zrt m_J0_charAt_5068e) ∈ GW := gw_in 696 (by decide +kernel) rfl
def m_J0_getBytes_840e7 : zX := (yJ0_getBytes_840e7, cJ0_getBytes_840e7, 4, none, [])
theorem wm_J0_getBytes_840e7 : Cond.code m_J0_getBytes_840e7.1 (zcc m_J0_getBytes_840e7) (zml m_J0_getBytes_840e7) (zrt m_J0_getBytes_840e7) ∈ GW := gw_in 1377 (by decide +kernel) rfl
/-! words -/
theorem wpl_L : plainName RL = true := by decide +kernel
theorem wpl_X0 : plainName RX0 = true := by decide +kernel
theorem wpl_X1 : plainName RX1 = true := by decide +kernel
theorem wpl_X10 : plainName RX10 = true := by decide +kernel
theorem wpl_X11 : plainName RX11 = true := by decide +kernel
theorem wpl_X12 : plainName RX12 = true := by decide +kernel
theorem wpl_X2 : plainName RX2 = true := by decide +kernel
theorem wpl_X3 : plainName RX3 = true := by decide +kernel
theorem wpl_X4 : plainName RX4 = true := by decide +kernel
theorem wpl_X5 : plainName RX5 = true := by decide +kernel
theorem wpl_X6 : plainName RX6 = true := by decide +kernel
theorem wpl_X7 : plainName RX7 = true := by decide +kernel
theorem wpl_X8 : plainName RX8 = true := by decide +kernel
theorem wpl_X9 : plainName RX9 = true := by decide +kernel
theorem wi_obj : Cond.instanceMethod Lib.objectInit ∈ GW := gw_in 77 (by decide +kernel) rfl
theorem wi_objc : Cond.code Lib.objectInit ⟨#[0xb1]⟩ 1 none ∈ GW := gw_in 78 (by decide +kernel) rfl
theorem wi_acn : Cond.native arraycopyName ∈ GW := gw_in 385 (by decide +kernel) rfl
theorem wi_acs : Cond.static arraycopyName ∈ GW := gw_in 384 (by decide +kernel) rfl
theorem wi_sys : Cond.initialized "java/lang/System" ∈ GW := gw_in 58 (by decide +kernel) rfl
theorem wi_x0 : Cond.initialized (zexn 0) ∈ GW := gw_in 59 (by decide +kernel) rfl
theorem wct_0 : Cond.castable (zexn 0) (zexn 0) ∈ lw_tbl := List.mem_of_getElem? (i := 1091) (by decide +kernel)
theorem wi_x1 : Cond.initialized (zexn 1) ∈ GW := gw_in 55 (by decide +kernel) rfl
theorem wct_1 : Cond.castable (zexn 1) (zexn 1) ∈ lw_tbl := List.mem_of_getElem? (i := 581) (by decide +kernel)
theorem wi_x2 : Cond.initialized (zexn 2) ∈ GW := gw_in 56 (by decide +kernel) rfl
theorem wct_2 : Cond.castable (zexn 2) (zexn 2) ∈ lw_tbl := List.mem_of_getElem? (i := 882) (by decide +kernel)
theorem wi_x3 : Cond.initialized (zexn 3) ∈ GW := gw_in 57 (by decide +kernel) rfl
theorem wct_3 : Cond.castable (zexn 3) (zexn 3) ∈ lw_tbl := List.mem_of_getElem? (i := 901) (by decide +kernel)
theorem wa_I : Cond.arrayClass .int ∈ GW := gw_in 98 (by decide +kernel) rfl
theorem wa_Z : Cond.arrayClass .byte ∈ GW := gw_in 865 (by decide +kernel) rfl
theorem wa_J : Cond.arrayClass .long ∈ GW := gw_in 174 (by decide +kernel) rfl
theorem wo_3 : Cond.arrayOver (.object RX1) ∈ lw_tbl := List.mem_of_getElem? (i := 128) (by decide +kernel)
theorem wo_4 : Cond.arrayOver (.object RX0) ∈ lw_tbl := List.mem_of_getElem? (i := 287) (by decide +kernel)
theorem wo_5 : Cond.arrayOver (.object RX9) ∈ lw_tbl := List.mem_of_getElem? (i := 433) (by decide +kernel)
theorem wo_6 : Cond.arrayOver (.array (.object RX9)) ∈ lw_tbl := List.mem_of_getElem? (i := 431) (by decide +kernel)
theorem wo_7 : Cond.arrayOver (.object RX12) ∈ lw_tbl := List.mem_of_getElem? (i := 1550) (by decide +kernel)
theorem wcl_2 : Cond.native ⟨"java/lang/Object", "clone", "()Ljava/lang/Object;"⟩ ∈ GW := gw_in 487 (by decide +kernel) rfl
theorem wcl_3 : Cond.instanceMethod ⟨"java/lang/Object", "clone", "()Ljava/lang/Object;"⟩ ∈ GW := gw_in 488 (by decide +kernel) rfl
theorem wcl_I1 : Cond.sameMethod "[I" "java/lang/Object" "clone" "()Ljava/lang/Object;" ∈ GW := gw_in 486 (by decide +kernel) rfl
theorem wcl_I4 : Cond.selects "[I" ⟨"[I", "clone", "()Ljava/lang/Object;"⟩ ⟨"java/lang/Object", "clone", "()Ljava/lang/Object;"⟩ ∈ GW := gw_in 489 (by decide +kernel) rfl
theorem wcl_I5 : Cond.castable "[I" "java/lang/Cloneable" ∈ lw_tbl := List.mem_of_getElem? (i := 490) (by decide +kernel)
theorem wcl_B1 : Cond.sameMethod "[B" "java/lang/Object" "clone" "()Ljava/lang/Object;" ∈ GW := gw_in 1321 (by decide +kernel) rfl
theorem wcl_B4 : Cond.selects "[B" ⟨"[B", "clone", "()Ljava/lang/Object;"⟩ ⟨"java/lang/Object", "clone", "()Ljava/lang/Object;"⟩ ∈ GW := gw_in 1322 (by decide +kernel) rfl
theorem wcl_B5 : Cond.castable "[B" "java/lang/Cloneable" ∈ lw_tbl := List.mem_of_getElem? (i := 1323) (by decide +kernel)
theorem wnv : Cond.fieldLinkNest RX10 50 RL "VARIABLES" "[Ljava/lang/String;" RL ∈ lw_tbl := List.mem_of_getElem? (i := 1481) (by decide +kernel)
theorem wn_X0 : Cond.instantiable RX0 15 ∈ GW := gw_in 122 (by decide +kernel) rfl
theorem wi_X0 : Cond.initialized RX0 ∈ GW := gw_in 45 (by decide +kernel) rfl
theorem wn_X1 : Cond.instantiable RX1 4 ∈ GW := gw_in 129 (by decide +kernel) rfl
theorem wi_X1 : Cond.initialized RX1 ∈ GW := gw_in 46 (by decide +kernel) rfl
theorem wn_X2 : Cond.instantiable RX2 2 ∈ GW := gw_in 80 (by decide +kernel) rfl
theorem wi_X2 : Cond.initialized RX2 ∈ GW := gw_in 39 (by decide +kernel) rfl
theorem wn_X3 : Cond.instantiable RX3 6 ∈ GW := gw_in 300 (by decide +kernel) rfl
theorem wi_X3 : Cond.initialized RX3 ∈ GW := gw_in 49 (by decide +kernel) rfl
theorem wn_X4 : Cond.instantiable RX4 3 ∈ GW := gw_in 281 (by decide +kernel) rfl
theorem wi_X4 : Cond.initialized RX4 ∈ GW := gw_in 48 (by decide +kernel) rfl
theorem wn_X5 : Cond.instantiable RX5 2 ∈ GW := gw_in 162 (by decide +kernel) rfl
theorem wi_X5 : Cond.initialized RX5 ∈ GW := gw_in 47 (by decide +kernel) rfl
theorem wn_X6 : Cond.instantiable RX6 2 ∈ GW := gw_in 106 (by decide +kernel) rfl
theorem wi_X6 : Cond.initialized RX6 ∈ GW := gw_in 43 (by decide +kernel) rfl
theorem wn_X7 : Cond.instantiable RX7 14 ∈ GW := gw_in 100 (by decide +kernel) rfl
theorem wi_X7 : Cond.initialized RX7 ∈ GW := gw_in 42 (by decide +kernel) rfl
theorem wn_X8 : Cond.instantiable RX8 6 ∈ GW := gw_in 72 (by decide +kernel) rfl
theorem wi_X8 : Cond.initialized RX8 ∈ GW := gw_in 38 (by decide +kernel) rfl
theorem wn_X9 : Cond.instantiable RX9 3 ∈ GW := gw_in 388 (by decide +kernel) rfl
theorem wi_X9 : Cond.initialized RX9 ∈ GW := gw_in 64 (by decide +kernel) rfl
theorem wn_X10 : Cond.instantiable RX10 4 ∈ GW := gw_in 1233 (by decide +kernel) rfl
theorem wi_X10 : Cond.initialized RX10 ∈ GW := gw_in 65 (by decide +kernel) rfl
theorem wn_X11 : Cond.instantiable RX11 1 ∈ GW := gw_in 410 (by decide +kernel) rfl
theorem wi_X11 : Cond.initialized RX11 ∈ GW := gw_in 50 (by decide +kernel) rfl
theorem wn_X12 : Cond.instantiable RX12 12 ∈ GW := gw_in 425 (by decide +kernel) rfl
theorem wi_X12 : Cond.initialized RX12 ∈ GW := gw_in 51 (by decide +kernel) rfl
theorem wn_J0 : Cond.instantiable RJ0 4 ∈ GW := gw_in 1410 (by decide +kernel) rfl
theorem wi_J0 : Cond.initialized RJ0 ∈ GW := gw_in 60 (by decide +kernel) rfl
theorem wn_J4 : Cond.instantiable RJ4 4 ∈ GW := gw_in 1259 (by decide +kernel) rfl
theorem wi_J4 : Cond.initialized RJ4 ∈ GW := gw_in 67 (by decide +kernel) rfl
theorem wi_J1 : Cond.initialized RJ1 ∈ GW := gw_in 61 (by decide +kernel) rfl
theorem wi_J13 : Cond.initialized RJ13 ∈ GW := gw_in 70 (by decide +kernel) rfl
theorem wi_J3 : Cond.initialized RJ3 ∈ GW := gw_in 62 (by decide +kernel) rfl
theorem wi_J5 : Cond.initialized RJ5 ∈ GW := gw_in 66 (by decide +kernel) rfl
theorem wi_J6 : Cond.initialized RJ6 ∈ GW := gw_in 41 (by decide +kernel) rfl
theorem wi_J7 : Cond.initialized RJ7 ∈ GW := gw_in 69 (by decide +kernel) rfl
theorem wi_J8 : Cond.initialized RJ8 ∈ GW := gw_in 68 (by decide +kernel) rfl
theorem wi_J9 : Cond.initialized RJ9 ∈ GW := gw_in 44 (by decide +kernel) rfl
theorem wi_L : Cond.initialized RL ∈ GW := gw_in 37 (by decide +kernel) rfl
theorem wc_J4_18 : Cond.classLink RJ4 18 RJ0 ∈ GW := gw_in 1409 (by decide +kernel) rfl
theorem wc_J7_311 : Cond.classLink RJ7 311 "[B" ∈ GW := gw_in 1324 (by decide +kernel) rfl
theorem wc_L_125 : Cond.classLink RL 125 RX11 ∈ GW := gw_in 409 (by decide +kernel) rfl
theorem wc_L_129 : Cond.classLink RL 129 RX9 ∈ GW := gw_in 387 (by decide +kernel) rfl
theorem wc_L_14 : Cond.classLink RL 14 RX8 ∈ GW := gw_in 71 (by decide +kernel) rfl
theorem wc_L_142 : Cond.classLink RL 142 RX12 ∈ GW := gw_in 424 (by decide +kernel) rfl
theorem wc_L_162 : Cond.classLink RL 162 (FieldType.array (.object RX9)).toString ∈ GW := gw_in 1224 (by decide +kernel) rfl
theorem wc_L_40 : Cond.classLink RL 40 (zexn 1) ∈ GW := gw_in 570 (by decide +kernel) rfl
theorem wc_L_50 : Cond.classLink RL 50 (zexn 2) ∈ GW := gw_in 869 (by decide +kernel) rfl
theorem wc_L_57 : Cond.classLink RL 57 (zexn 3) ∈ GW := gw_in 870 (by decide +kernel) rfl
theorem wc_L_97 : Cond.classLink RL 97 (zexn 0) ∈ GW := gw_in 1075 (by decide +kernel) rfl
theorem wc_X0_15 : Cond.classLink RX0 15 RX1 ∈ GW := gw_in 127 (by decide +kernel) rfl
theorem wc_X0_22 : Cond.classLink RX0 22 RX6 ∈ GW := gw_in 159 (by decide +kernel) rfl
theorem wc_X0_40 : Cond.classLink RX0 40 RX5 ∈ GW := gw_in 161 (by decide +kernel) rfl
theorem wc_X10_34 : Cond.classLink RX10 34 RJ4 ∈ GW := gw_in 1258 (by decide +kernel) rfl
theorem wc_X10_7 : Cond.classLink RX10 7 RX10 ∈ GW := gw_in 1232 (by decide +kernel) rfl
theorem wc_X12_20 : Cond.classLink RX12 20 (FieldType.array (.object RX9)).toString ∈ GW := gw_in 430 (by decide +kernel) rfl
theorem wc_X12_29 : Cond.classLink RX12 29 RX9 ∈ GW := gw_in 432 (by decide +kernel) rfl
theorem wc_X12_36 : Cond.classLink RX12 36 "[I" ∈ GW := gw_in 491 (by decide +kernel) rfl
theorem wc_X12_8 : Cond.classLink RX12 8 RX12 ∈ GW := gw_in 483 (by decide +kernel) rfl
theorem wc_X1_9 : Cond.classLink RX1 9 RX6 ∈ GW := gw_in 134 (by decide +kernel) rfl
theorem wc_X3_23 : Cond.classLink RX3 23 RX6 ∈ GW := gw_in 305 (by decide +kernel) rfl
theorem wc_X4_9 : Cond.classLink RX4 9 RX0 ∈ GW := gw_in 286 (by decide +kernel) rfl
theorem wc_X7_19 : Cond.classLink RX7 19 RX6 ∈ GW := gw_in 105 (by decide +kernel) rfl
theorem wc_X7_192 : Cond.classLink RX7 192 RX5 ∈ GW := gw_in 834 (by decide +kernel) rfl
theorem wc_X7_28 : Cond.classLink RX7 28 RX0 ∈ GW := gw_in 121 (by decide +kernel) rfl
theorem wc_X8_138 : Cond.classLink RX8 138 (zexn 3) ∈ GW := gw_in 899 (by decide +kernel) rfl
theorem wc_X8_16 : Cond.classLink RX8 16 RX7 ∈ GW := gw_in 99 (by decide +kernel) rfl
theorem wc_X8_212 : Cond.classLink RX8 212 (zexn 0) ∈ GW := gw_in 1089 (by decide +kernel) rfl
theorem wc_X8_25 : Cond.classLink RX8 25 RX0 ∈ GW := gw_in 278 (by decide +kernel) rfl
theorem wc_X8_257 : Cond.classLink RX8 257 (zexn 2) ∈ GW := gw_in 880 (by decide +kernel) rfl
theorem wc_X8_32 : Cond.classLink RX8 32 RX4 ∈ GW := gw_in 280 (by decide +kernel) rfl
theorem wc_X8_39 : Cond.classLink RX8 39 RX3 ∈ GW := gw_in 299 (by decide +kernel) rfl
theorem wc_X8_62 : Cond.classLink RX8 62 (zexn 1) ∈ GW := gw_in 579 (by decide +kernel) rfl
theorem wc_X8_7 : Cond.classLink RX8 7 RX2 ∈ GW := gw_in 79 (by decide +kernel) rfl
theorem wf_J0_15 : Cond.fieldLink RJ0 15 RJ0 (TJ0 1).2.1 (TJ0 1).2.2.1 ∈ GW := gw_in 1471 (by decide +kernel) rfl
theorem wf_J0_9 : Cond.fieldLink RJ0 9 RJ0 (TJ0 0).2.1 (TJ0 0).2.2.1 ∈ GW := gw_in 1470 (by decide +kernel) rfl
theorem wf_J5_15 : Cond.fieldLink RJ5 15 RJ5 (TJ4 0).2.1 (TJ4 0).2.2.1 ∈ GW := gw_in 1275 (by decide +kernel) rfl
theorem wf_J5_22 : Cond.fieldLink RJ5 22 RJ5 (TJ4 1).2.1 (TJ4 1).2.2.1 ∈ GW := gw_in 1276 (by decide +kernel) rfl
theorem wf_J5_79 : Cond.fieldLink RJ5 79 RJ5 (TJ4 3).2.1 (TJ4 3).2.2.1 ∈ GW := gw_in 1278 (by decide +kernel) rfl
theorem wf_L_145 : Cond.fieldLink RL 145 RX12 (TX12 0).2.1 (TX12 0).2.2.1 ∈ GW := gw_in 435 (by decide +kernel) rfl
theorem wf_L_155 : Cond.fieldLink RL 155 RX12 (TX12 1).2.1 (TX12 1).2.2.1 ∈ GW := gw_in 437 (by decide +kernel) rfl
theorem wf_L_159 : Cond.fieldLink RL 159 RX12 (TX12 2).2.1 (TX12 2).2.2.1 ∈ GW := gw_in 439 (by decide +kernel) rfl
theorem wf_L_164 : Cond.fieldLink RL 164 RX12 (TX12 3).2.1 (TX12 3).2.2.1 ∈ GW := gw_in 441 (by decide +kernel) rfl
theorem wf_L_182 : Cond.fieldLink RL 182 RX9 (TX9 1).2.1 (TX9 1).2.2.1 ∈ GW := gw_in 398 (by decide +kernel) rfl
theorem wf_L_189 : Cond.fieldLink RL 189 RX9 (TX9 2).2.1 (TX9 2).2.2.1 ∈ GW := gw_in 401 (by decide +kernel) rfl
theorem wf_L_192 : Cond.fieldLink RL 192 RX12 (TX12 4).2.1 (TX12 4).2.2.1 ∈ GW := gw_in 443 (by decide +kernel) rfl
theorem wf_L_202 : Cond.fieldLink RL 202 RX12 (TX12 11).2.1 (TX12 11).2.2.1 ∈ GW := gw_in 453 (by decide +kernel) rfl
theorem wf_L_228 : Cond.fieldLink RL 228 RX12 (TX12 7).2.1 (TX12 7).2.2.1 ∈ GW := gw_in 448 (by decide +kernel) rfl
theorem wf_L_251 : Cond.fieldLink RL 251 RX9 (TX9 0).2.1 (TX9 0).2.2.1 ∈ GW := gw_in 395 (by decide +kernel) rfl
theorem wf_L_288 : Cond.fieldLink RL 288 RX12 (TX12 6).2.1 (TX12 6).2.2.1 ∈ GW := gw_in 446 (by decide +kernel) rfl
theorem wf_X0_114 : Cond.fieldLink RX0 114 RX1 (TX1 0).2.1 (TX1 0).2.2.1 ∈ GW := gw_in 139 (by decide +kernel) rfl
theorem wf_X0_120 : Cond.fieldLink RX0 120 RX1 (TX1 1).2.1 (TX1 1).2.2.1 ∈ GW := gw_in 143 (by decide +kernel) rfl
theorem wf_X0_139 : Cond.fieldLink RX0 139 RX1 (TX1 2).2.1 (TX1 2).2.2.1 ∈ GW := gw_in 146 (by decide +kernel) rfl
theorem wf_X0_164 : Cond.fieldLink RX0 164 RX1 (TX1 3).2.1 (TX1 3).2.2.1 ∈ GW := gw_in 149 (by decide +kernel) rfl
theorem wf_X0_17 : Cond.fieldLink RX0 17 RX0 (TX0 1).2.1 (TX0 1).2.2.1 ∈ GW := gw_in 176 (by decide +kernel) rfl
theorem wf_X0_27 : Cond.fieldLink RX0 27 RX0 (TX0 2).2.1 (TX0 2).2.2.1 ∈ GW := gw_in 177 (by decide +kernel) rfl
theorem wf_X0_31 : Cond.fieldLink RX0 31 RX0 (TX0 3).2.1 (TX0 3).2.2.1 ∈ GW := gw_in 180 (by decide +kernel) rfl
theorem wf_X0_34 : Cond.fieldLink RX0 34 RX0 (TX0 4).2.1 (TX0 4).2.2.1 ∈ GW := gw_in 182 (by decide +kernel) rfl
theorem wf_X0_37 : Cond.fieldLink RX0 37 RX0 (TX0 5).2.1 (TX0 5).2.2.1 ∈ GW := gw_in 184 (by decide +kernel) rfl
theorem wf_X0_45 : Cond.fieldLink RX0 45 RX0 (TX0 6).2.1 (TX0 6).2.2.1 ∈ GW := gw_in 186 (by decide +kernel) rfl
theorem wf_X0_49 : Cond.fieldLink RX0 49 RX0 (TX0 7).2.1 (TX0 7).2.2.1 ∈ GW := gw_in 187 (by decide +kernel) rfl
theorem wf_X0_52 : Cond.fieldLink RX0 52 RX0 (TX0 8).2.1 (TX0 8).2.2.1 ∈ GW := gw_in 188 (by decide +kernel) rfl
theorem wf_X0_56 : Cond.fieldLink RX0 56 RX0 (TX0 9).2.1 (TX0 9).2.2.1 ∈ GW := gw_in 191 (by decide +kernel) rfl
theorem wf_X0_62 : Cond.fieldLink RX0 62 RX0 (TX0 10).2.1 (TX0 10).2.2.1 ∈ GW := gw_in 194 (by decide +kernel) rfl
theorem wf_X0_65 : Cond.fieldLink RX0 65 RX0 (TX0 11).2.1 (TX0 11).2.2.1 ∈ GW := gw_in 196 (by decide +kernel) rfl
theorem wf_X0_68 : Cond.fieldLink RX0 68 RX0 (TX0 14).2.1 (TX0 14).2.2.1 ∈ GW := gw_in 202 (by decide +kernel) rfl
theorem wf_X0_81 : Cond.fieldLink RX0 81 RX0 (TX0 12).2.1 (TX0 12).2.2.1 ∈ GW := gw_in 198 (by decide +kernel) rfl
theorem wf_X0_84 : Cond.fieldLink RX0 84 RX0 (TX0 13).2.1 (TX0 13).2.2.1 ∈ GW := gw_in 200 (by decide +kernel) rfl
theorem wf_X0_9 : Cond.fieldLink RX0 9 RX0 (TX0 0).2.1 (TX0 0).2.2.1 ∈ GW := gw_in 175 (by decide +kernel) rfl
theorem wf_X10_16 : Cond.fieldLink RX10 16 RX10 (TX10 0).2.1 (TX10 0).2.2.1 ∈ GW := gw_in 1238 (by decide +kernel) rfl
theorem wf_X10_20 : Cond.fieldLink RX10 20 RX10 (TX10 1).2.1 (TX10 1).2.2.1 ∈ GW := gw_in 1239 (by decide +kernel) rfl
theorem wf_X10_27 : Cond.fieldLink RX10 27 RX10 (TX10 2).2.1 (TX10 2).2.2.1 ∈ GW := gw_in 1240 (by decide +kernel) rfl
theorem wf_X10_31 : Cond.fieldLink RX10 31 RX10 (TX10 3).2.1 (TX10 3).2.2.1 ∈ GW := gw_in 1241 (by decide +kernel) rfl
theorem wf_X11_7 : Cond.fieldLink RX11 7 RX11 (TX11 0).2.1 (TX11 0).2.2.1 ∈ GW := gw_in 415 (by decide +kernel) rfl
theorem wf_X12_13 : Cond.fieldLink RX12 13 RX12 (TX12 1).2.1 (TX12 1).2.2.1 ∈ GW := gw_in 436 (by decide +kernel) rfl
theorem wf_X12_134 : Cond.fieldLink RX12 134 RX9 (TX9 0).2.1 (TX9 0).2.2.1 ∈ GW := gw_in 394 (by decide +kernel) rfl
theorem wf_X12_17 : Cond.fieldLink RX12 17 RX12 (TX12 2).2.1 (TX12 2).2.2.1 ∈ GW := gw_in 438 (by decide +kernel) rfl
theorem wf_X12_22 : Cond.fieldLink RX12 22 RX12 (TX12 3).2.1 (TX12 3).2.2.1 ∈ GW := gw_in 440 (by decide +kernel) rfl
theorem wf_X12_26 : Cond.fieldLink RX12 26 RX12 (TX12 4).2.1 (TX12 4).2.2.1 ∈ GW := gw_in 442 (by decide +kernel) rfl
theorem wf_X12_31 : Cond.fieldLink RX12 31 RX12 (TX12 7).2.1 (TX12 7).2.2.1 ∈ GW := gw_in 447 (by decide +kernel) rfl
theorem wf_X12_40 : Cond.fieldLink RX12 40 RX12 (TX12 5).2.1 (TX12 5).2.2.1 ∈ GW := gw_in 444 (by decide +kernel) rfl
theorem wf_X12_43 : Cond.fieldLink RX12 43 RX12 (TX12 6).2.1 (TX12 6).2.2.1 ∈ GW := gw_in 445 (by decide +kernel) rfl
theorem wf_X12_46 : Cond.fieldLink RX12 46 RX12 (TX12 8).2.1 (TX12 8).2.2.1 ∈ GW := gw_in 449 (by decide +kernel) rfl
theorem wf_X12_49 : Cond.fieldLink RX12 49 RX12 (TX12 9).2.1 (TX12 9).2.2.1 ∈ GW := gw_in 450 (by decide +kernel) rfl
theorem wf_X12_52 : Cond.fieldLink RX12 52 RX12 (TX12 10).2.1 (TX12 10).2.2.1 ∈ GW := gw_in 451 (by decide +kernel) rfl
theorem wf_X12_55 : Cond.fieldLink RX12 55 RX12 (TX12 11).2.1 (TX12 11).2.2.1 ∈ GW := gw_in 452 (by decide +kernel) rfl
theorem wf_X12_65 : Cond.fieldLink RX12 65 RX9 (TX9 1).2.1 (TX9 1).2.2.1 ∈ GW := gw_in 397 (by decide +kernel) rfl
theorem wf_X12_7 : Cond.fieldLink RX12 7 RX12 (TX12 0).2.1 (TX12 0).2.2.1 ∈ GW := gw_in 434 (by decide +kernel) rfl
theorem wf_X12_72 : Cond.fieldLink RX12 72 RX9 (TX9 2).2.1 (TX9 2).2.2.1 ∈ GW := gw_in 400 (by decide +kernel) rfl
theorem wf_X1_14 : Cond.fieldLink RX1 14 RX1 (TX1 0).2.1 (TX1 0).2.2.1 ∈ GW := gw_in 136 (by decide +kernel) rfl
theorem wf_X1_20 : Cond.fieldLink RX1 20 RX1 (TX1 1).2.1 (TX1 1).2.2.1 ∈ GW := gw_in 141 (by decide +kernel) rfl
theorem wf_X1_23 : Cond.fieldLink RX1 23 RX1 (TX1 2).2.1 (TX1 2).2.2.1 ∈ GW := gw_in 144 (by decide +kernel) rfl
theorem wf_X1_27 : Cond.fieldLink RX1 27 RX1 (TX1 3).2.1 (TX1 3).2.2.1 ∈ GW := gw_in 147 (by decide +kernel) rfl
theorem wf_X2_15 : Cond.fieldLink RX2 15 RX2 (TX2 1).2.1 (TX2 1).2.2.1 ∈ GW := gw_in 92 (by decide +kernel) rfl
theorem wf_X2_9 : Cond.fieldLink RX2 9 RX2 (TX2 0).2.1 (TX2 0).2.2.1 ∈ GW := gw_in 91 (by decide +kernel) rfl
theorem wf_X3_11 : Cond.fieldLink RX3 11 RX3 (TX3 0).2.1 (TX3 0).2.2.1 ∈ GW := gw_in 307 (by decide +kernel) rfl
theorem wf_X3_15 : Cond.fieldLink RX3 15 RX3 (TX3 1).2.1 (TX3 1).2.2.1 ∈ GW := gw_in 308 (by decide +kernel) rfl
theorem wf_X3_19 : Cond.fieldLink RX3 19 RX3 (TX3 2).2.1 (TX3 2).2.2.1 ∈ GW := gw_in 309 (by decide +kernel) rfl
theorem wf_X3_28 : Cond.fieldLink RX3 28 RX3 (TX3 3).2.1 (TX3 3).2.2.1 ∈ GW := gw_in 310 (by decide +kernel) rfl
theorem wf_X3_40 : Cond.fieldLink RX3 40 RX3 (TX3 5).2.1 (TX3 5).2.2.1 ∈ GW := gw_in 312 (by decide +kernel) rfl
theorem wf_X3_44 : Cond.fieldLink RX3 44 RX3 (TX3 4).2.1 (TX3 4).2.2.1 ∈ GW := gw_in 311 (by decide +kernel) rfl
theorem wf_X3_56 : Cond.fieldLink RX3 56 RX1 (TX1 0).2.1 (TX1 0).2.2.1 ∈ GW := gw_in 137 (by decide +kernel) rfl
theorem wf_X4_11 : Cond.fieldLink RX4 11 RX4 (TX4 0).2.1 (TX4 0).2.2.1 ∈ GW := gw_in 289 (by decide +kernel) rfl
theorem wf_X4_20 : Cond.fieldLink RX4 20 RX4 (TX4 2).2.1 (TX4 2).2.2.1 ∈ GW := gw_in 291 (by decide +kernel) rfl
theorem wf_X4_24 : Cond.fieldLink RX4 24 RX4 (TX4 1).2.1 (TX4 1).2.2.1 ∈ GW := gw_in 290 (by decide +kernel) rfl
theorem wf_X5_15 : Cond.fieldLink RX5 15 RX5 (TX5 1).2.1 (TX5 1).2.2.1 ∈ GW := gw_in 168 (by decide +kernel) rfl
theorem wf_X5_9 : Cond.fieldLink RX5 9 RX5 (TX5 0).2.1 (TX5 0).2.2.1 ∈ GW := gw_in 167 (by decide +kernel) rfl
theorem wf_X6_13 : Cond.fieldLink RX6 13 RX6 (TX6 0).2.1 (TX6 0).2.2.1 ∈ GW := gw_in 114 (by decide +kernel) rfl
theorem wf_X6_19 : Cond.fieldLink RX6 19 RX6 (TX6 1).2.1 (TX6 1).2.2.1 ∈ GW := gw_in 115 (by decide +kernel) rfl
theorem wf_X7_116 : Cond.fieldLink RX7 116 RX7 (TX7 8).2.1 (TX7 8).2.2.1 ∈ GW := gw_in 243 (by decide +kernel) rfl
theorem wf_X7_119 : Cond.fieldLink RX7 119 RX0 (TX0 8).2.1 (TX0 8).2.2.1 ∈ GW := gw_in 190 (by decide +kernel) rfl
theorem wf_X7_15 : Cond.fieldLink RX7 15 RX7 (TX7 1).2.1 (TX7 1).2.2.1 ∈ GW := gw_in 236 (by decide +kernel) rfl
theorem wf_X7_158 : Cond.fieldLink RX7 158 RX0 (TX0 9).2.1 (TX0 9).2.2.1 ∈ GW := gw_in 193 (by decide +kernel) rfl
theorem wf_X7_169 : Cond.fieldLink RX7 169 RX1 (TX1 0).2.1 (TX1 0).2.2.1 ∈ GW := gw_in 140 (by decide +kernel) rfl
theorem wf_X7_183 : Cond.fieldLink RX7 183 RX0 (TX0 2).2.1 (TX0 2).2.2.1 ∈ GW := gw_in 179 (by decide +kernel) rfl
theorem wf_X7_24 : Cond.fieldLink RX7 24 RX7 (TX7 10).2.1 (TX7 10).2.2.1 ∈ GW := gw_in 245 (by decide +kernel) rfl
theorem wf_X7_33 : Cond.fieldLink RX7 33 RX7 (TX7 9).2.1 (TX7 9).2.2.1 ∈ GW := gw_in 244 (by decide +kernel) rfl
theorem wf_X7_37 : Cond.fieldLink RX7 37 RX7 (TX7 2).2.1 (TX7 2).2.2.1 ∈ GW := gw_in 237 (by decide +kernel) rfl
theorem wf_X7_41 : Cond.fieldLink RX7 41 RX7 (TX7 13).2.1 (TX7 13).2.2.1 ∈ GW := gw_in 248 (by decide +kernel) rfl
theorem wf_X7_56 : Cond.fieldLink RX7 56 RX7 (TX7 3).2.1 (TX7 3).2.2.1 ∈ GW := gw_in 238 (by decide +kernel) rfl
theorem wf_X7_59 : Cond.fieldLink RX7 59 RX7 (TX7 6).2.1 (TX7 6).2.2.1 ∈ GW := gw_in 241 (by decide +kernel) rfl
theorem wf_X7_65 : Cond.fieldLink RX7 65 RX7 (TX7 11).2.1 (TX7 11).2.2.1 ∈ GW := gw_in 246 (by decide +kernel) rfl
theorem wf_X7_69 : Cond.fieldLink RX7 69 RX7 (TX7 12).2.1 (TX7 12).2.2.1 ∈ GW := gw_in 247 (by decide +kernel) rfl
theorem wf_X7_79 : Cond.fieldLink RX7 79 RX7 (TX7 4).2.1 (TX7 4).2.2.1 ∈ GW := gw_in 239 (by decide +kernel) rfl
theorem wf_X7_85 : Cond.fieldLink RX7 85 RX7 (TX7 5).2.1 (TX7 5).2.2.1 ∈ GW := gw_in 240 (by decide +kernel) rfl
theorem wf_X7_88 : Cond.fieldLink RX7 88 RX7 (TX7 7).2.1 (TX7 7).2.2.1 ∈ GW := gw_in 242 (by decide +kernel) rfl
theorem wf_X7_9 : Cond.fieldLink RX7 9 RX7 (TX7 0).2.1 (TX7 0).2.2.1 ∈ GW := gw_in 235 (by decide +kernel) rfl
theorem wf_X8_10 : Cond.fieldLink RX8 10 RX8 (TX8 0).2.1 (TX8 0).2.2.1 ∈ GW := gw_in 326 (by decide +kernel) rfl
theorem wf_X8_101 : Cond.fieldLink RX8 101 RX0 (TX0 10).2.1 (TX0 10).2.2.1 ∈ GW := gw_in 195 (by decide +kernel) rfl
theorem wf_X8_104 : Cond.fieldLink RX8 104 RX0 (TX0 11).2.1 (TX0 11).2.2.1 ∈ GW := gw_in 197 (by decide +kernel) rfl
theorem wf_X8_107 : Cond.fieldLink RX8 107 RX0 (TX0 4).2.1 (TX0 4).2.2.1 ∈ GW := gw_in 183 (by decide +kernel) rfl
theorem wf_X8_110 : Cond.fieldLink RX8 110 RX0 (TX0 12).2.1 (TX0 12).2.2.1 ∈ GW := gw_in 199 (by decide +kernel) rfl
theorem wf_X8_113 : Cond.fieldLink RX8 113 RX0 (TX0 13).2.1 (TX0 13).2.2.1 ∈ GW := gw_in 201 (by decide +kernel) rfl
theorem wf_X8_116 : Cond.fieldLink RX8 116 RX0 (TX0 14).2.1 (TX0 14).2.2.1 ∈ GW := gw_in 203 (by decide +kernel) rfl
theorem wf_X8_123 : Cond.fieldLink RX8 123 RX1 (TX1 2).2.1 (TX1 2).2.2.1 ∈ GW := gw_in 145 (by decide +kernel) rfl
theorem wf_X8_128 : Cond.fieldLink RX8 128 RX1 (TX1 0).2.1 (TX1 0).2.2.1 ∈ GW := gw_in 138 (by decide +kernel) rfl
theorem wf_X8_131 : Cond.fieldLink RX8 131 RX1 (TX1 3).2.1 (TX1 3).2.2.1 ∈ GW := gw_in 148 (by decide +kernel) rfl
theorem wf_X8_147 : Cond.fieldLink RX8 147 RX1 (TX1 1).2.1 (TX1 1).2.2.1 ∈ GW := gw_in 142 (by decide +kernel) rfl
theorem wf_X8_154 : Cond.fieldLink RX8 154 RX0 (TX0 3).2.1 (TX0 3).2.2.1 ∈ GW := gw_in 181 (by decide +kernel) rfl
theorem wf_X8_157 : Cond.fieldLink RX8 157 RX0 (TX0 5).2.1 (TX0 5).2.2.1 ∈ GW := gw_in 185 (by decide +kernel) rfl
theorem wf_X8_21 : Cond.fieldLink RX8 21 RX8 (TX8 1).2.1 (TX8 1).2.2.1 ∈ GW := gw_in 327 (by decide +kernel) rfl
theorem wf_X8_28 : Cond.fieldLink RX8 28 RX8 (TX8 2).2.1 (TX8 2).2.2.1 ∈ GW := gw_in 328 (by decide +kernel) rfl
theorem wf_X8_35 : Cond.fieldLink RX8 35 RX8 (TX8 3).2.1 (TX8 3).2.2.1 ∈ GW := gw_in 329 (by decide +kernel) rfl
theorem wf_X8_42 : Cond.fieldLink RX8 42 RX8 (TX8 4).2.1 (TX8 4).2.2.1 ∈ GW := gw_in 330 (by decide +kernel) rfl
theorem wf_X8_46 : Cond.fieldLink RX8 46 RX8 (TX8 5).2.1 (TX8 5).2.2.1 ∈ GW := gw_in 331 (by decide +kernel) rfl
theorem wf_X8_83 : Cond.fieldLink RX8 83 RX0 (TX0 9).2.1 (TX0 9).2.2.1 ∈ GW := gw_in 192 (by decide +kernel) rfl
theorem wf_X8_86 : Cond.fieldLink RX8 86 RX0 (TX0 8).2.1 (TX0 8).2.2.1 ∈ GW := gw_in 189 (by decide +kernel) rfl
theorem wf_X8_89 : Cond.fieldLink RX8 89 RX0 (TX0 2).2.1 (TX0 2).2.2.1 ∈ GW := gw_in 178 (by decide +kernel) rfl
theorem wf_X9_13 : Cond.fieldLink RX9 13 RX9 (TX9 1).2.1 (TX9 1).2.2.1 ∈ GW := gw_in 396 (by decide +kernel) rfl
theorem wf_X9_17 : Cond.fieldLink RX9 17 RX9 (TX9 2).2.1 (TX9 2).2.2.1 ∈ GW := gw_in 399 (by decide +kernel) rfl
theorem wf_X9_7 : Cond.fieldLink RX9 7 RX9 (TX9 0).2.1 (TX9 0).2.2.1 ∈ GW := gw_in 393 (by decide +kernel) rfl
theorem wk_J13_314 : Cond.constantLong RJ13 314 (6148914691236517205) ∈ GW := gw_in 1032 (by decide +kernel) rfl
theorem wk_J13_316 : Cond.constantLong RJ13 316 (3689348814741910323) ∈ GW := gw_in 1033 (by decide +kernel) rfl
theorem wk_J13_318 : Cond.constantLong RJ13 318 (1085102592571150095) ∈ GW := gw_in 1034 (by decide +kernel) rfl
theorem wk_J5_39 : Cond.constant RJ5 39 (2147483647) ∈ GW := gw_in 1316 (by decide +kernel) rfl
theorem wk_J6_265 : Cond.constant RJ6 265 (1431655765) ∈ GW := gw_in 88 (by decide +kernel) rfl
theorem wk_J6_266 : Cond.constant RJ6 266 (858993459) ∈ GW := gw_in 89 (by decide +kernel) rfl
theorem wk_J6_267 : Cond.constant RJ6 267 (252645135) ∈ GW := gw_in 90 (by decide +kernel) rfl
theorem wk_J8_200 : Cond.constant RJ8 200 (2147483639) ∈ GW := gw_in 1312 (by decide +kernel) rfl
theorem wk_L_168 : Cond.constant RL 168 (100000) ∈ GW := gw_in 1225 (by decide +kernel) rfl
theorem wk_L_42 : Cond.constant RL 42 (-2000000098) ∈ GW := gw_in 864 (by decide +kernel) rfl
theorem wk_L_52 : Cond.constant RL 52 (-2000000097) ∈ GW := gw_in 963 (by decide +kernel) rfl
theorem wk_L_59 : Cond.constant RL 59 (-2000000100) ∈ GW := gw_in 964 (by decide +kernel) rfl
theorem wk_L_99 : Cond.constant RL 99 (-2000000099) ∈ GW := gw_in 1139 (by decide +kernel) rfl
theorem wk_X10_76 : Cond.constantLong RX10 76 (-1000000) ∈ GW := gw_in 518 (by decide +kernel) rfl
theorem wk_X10_78 : Cond.constantLong RX10 78 (1000000) ∈ GW := gw_in 519 (by decide +kernel) rfl
theorem wk_X11_13 : Cond.constant RX11 13 (1103515245) ∈ GW := gw_in 423 (by decide +kernel) rfl
theorem wk_X12_141 : Cond.constantLong RX12 141 (31) ∈ GW := gw_in 1527 (by decide +kernel) rfl
theorem wk_X12_85 : Cond.constantLong RX12 85 (9999) ∈ GW := gw_in 526 (by decide +kernel) rfl
theorem wk_X12_96 : Cond.constant RX12 96 (999999) ∈ GW := gw_in 553 (by decide +kernel) rfl
theorem wk_X1_43 : Cond.constant RX1 43 (999999) ∈ GW := gw_in 1128 (by decide +kernel) rfl
theorem wk_X5_27 : Cond.constantLong RX5 27 (9999) ∈ GW := gw_in 962 (by decide +kernel) rfl
theorem wk_X5_38 : Cond.constantLong RX5 38 (-1000000) ∈ GW := gw_in 955 (by decide +kernel) rfl
theorem wk_X5_40 : Cond.constantLong RX5 40 (1000000) ∈ GW := gw_in 956 (by decide +kernel) rfl
theorem wk_X7_161 : Cond.constant RX7 161 (99999) ∈ GW := gw_in 756 (by decide +kernel) rfl
theorem wk_X7_98 : Cond.constant RX7 98 (1000000) ∈ GW := gw_in 673 (by decide +kernel) rfl
theorem wk_X8_232 : Cond.constantLong RX8 232 (31) ∈ GW := gw_in 1501 (by decide +kernel) rfl
theorem wl_J0_1 : Cond.methodLink RJ0 1 Lib.objectInit ∈ GW := gw_in 1417 (by decide +kernel) rfl
theorem wl_J5_3 : Cond.methodLink RJ5 3 Lib.objectInit ∈ GW := gw_in 1266 (by decide +kernel) rfl
theorem wl_J7_150 : Cond.methodLink RJ7 150 arraycopyName ∈ GW := gw_in 845 (by decide +kernel) rfl
theorem wl_J7_310 : Cond.methodLink RJ7 310 ⟨"[B", "clone", "()Ljava/lang/Object;"⟩ ∈ GW := gw_in 1320 (by decide +kernel) rfl
theorem wl_X0_3 : Cond.methodLink RX0 3 Lib.objectInit ∈ GW := gw_in 126 (by decide +kernel) rfl
theorem wl_X10_1 : Cond.methodLink RX10 1 Lib.objectInit ∈ GW := gw_in 1237 (by decide +kernel) rfl
theorem wl_X11_1 : Cond.methodLink RX11 1 Lib.objectInit ∈ GW := gw_in 414 (by decide +kernel) rfl
theorem wl_X12_1 : Cond.methodLink RX12 1 Lib.objectInit ∈ GW := gw_in 429 (by decide +kernel) rfl
theorem wl_X12_35 : Cond.methodLink RX12 35 ⟨"[I", "clone", "()Ljava/lang/Object;"⟩ ∈ GW := gw_in 485 (by decide +kernel) rfl
theorem wl_X1_3 : Cond.methodLink RX1 3 Lib.objectInit ∈ GW := gw_in 133 (by decide +kernel) rfl
theorem wl_X2_3 : Cond.methodLink RX2 3 Lib.objectInit ∈ GW := gw_in 84 (by decide +kernel) rfl
theorem wl_X3_5 : Cond.methodLink RX3 5 Lib.objectInit ∈ GW := gw_in 304 (by decide +kernel) rfl
theorem wl_X4_3 : Cond.methodLink RX4 3 Lib.objectInit ∈ GW := gw_in 285 (by decide +kernel) rfl
theorem wl_X5_3 : Cond.methodLink RX5 3 Lib.objectInit ∈ GW := gw_in 166 (by decide +kernel) rfl
theorem wl_X6_1 : Cond.methodLink RX6 1 Lib.objectInit ∈ GW := gw_in 110 (by decide +kernel) rfl
theorem wl_X6_30 : Cond.methodLink RX6 30 arraycopyName ∈ GW := gw_in 383 (by decide +kernel) rfl
theorem wl_X7_3 : Cond.methodLink RX7 3 Lib.objectInit ∈ GW := gw_in 104 (by decide +kernel) rfl
theorem wl_X8_1 : Cond.methodLink RX8 1 Lib.objectInit ∈ GW := gw_in 76 (by decide +kernel) rfl
theorem wl_X9_1 : Cond.methodLink RX9 1 Lib.objectInit ∈ GW := gw_in 392 (by decide +kernel) rfl
theorem wx_X8_140a : (vx_at0 RX8 140 (zexn 3) ["java/lang/RuntimeException", "java/lang/Exception"]).all (fun w => (goodWord w || zxw w) && decide (w ∈ lw_tbl)) = true := by decide +kernel
theorem wx_X8_140b : (vx_at0 RX8 140 (zexn 3) ["java/lang/RuntimeException", "java/lang/Exception"]).all (fun w => vx_ot w) = true := by decide +kernel
theorem wx_X8_214a : (vx_at0 RX8 214 (zexn 0) ["java/lang/RuntimeException", "java/lang/Exception"]).all (fun w => (goodWord w || zxw w) && decide (w ∈ lw_tbl)) = true := by decide +kernel
theorem wx_X8_214b : (vx_at0 RX8 214 (zexn 0) ["java/lang/RuntimeException", "java/lang/Exception"]).all (fun w => vx_ot w) = true := by decide +kernel
theorem wx_X8_259a : (vx_at0 RX8 259 (zexn 2) ["java/lang/RuntimeException", "java/lang/Exception"]).all (fun w => (goodWord w || zxw w) && decide (w ∈ lw_tbl)) = true := by decide +kernel
theorem wx_X8_259b : (vx_at0 RX8 259 (zexn 2) ["java/lang/RuntimeException", "java/lang/Exception"]).all (fun w => vx_ot w) = true := by decide +kernel
theorem wx_X8_64a : (vx_at0 RX8 64 (zexn 1) ["java/lang/RuntimeException", "java/lang/Exception"]).all (fun w => (goodWord w || zxw w) && decide (w ∈ lw_tbl)) = true := by decide +kernel
theorem wx_X8_64b : (vx_at0 RX8 64 (zexn 1) ["java/lang/RuntimeException", "java/lang/Exception"]).all (fun w => vx_ot w) = true := by decide +kernel
theorem wj_J5_18 : Cond.fieldLink RJ5 18 "java/lang/String" "COMPACT_STRINGS" "Z" ∈ GW := gw_in 1267 (by decide +kernel) rfl
theorem wj_J6_83 : Cond.fieldLink RJ6 83 "java/lang/Integer" "DigitOnes" "[B" ∈ GW := gw_in 1393 (by decide +kernel) rfl
theorem wj_J6_87 : Cond.fieldLink RJ6 87 "java/lang/Integer" "DigitTens" "[B" ∈ GW := gw_in 1395 (by decide +kernel) rfl
theorem wms_J5_isLatin1_aae02 : Cond.instanceMethod m_J5_isLatin1_aae02.1 ∈ GW := gw_in 1326 (by decide +kernel) rfl
theorem wmd_J5_isLatin1_aae02 : m_J5_isLatin1_aae02.1.cls ≠ "java/lang/invoke/MethodHandle" ∧ m_J5_isLatin1_aae02.1.cls ≠ "java/lang/invoke/VarHandle" ∧ (parseMethodDescriptor m_J5_isLatin1_aae02.1.desc).map (fun d => d.parameters.length) = some 0 := by decide +kernel
theorem lk_J0_1047 : zLU RJ0 1047 RJ4 m_J5_isLatin1_aae02.1 m_J5_isLatin1_aae02 0 := ⟨rfl, gw_in 1431 (by decide +kernel) rfl, gw_in 1327 (by decide +kernel) rfl, wms_J5_isLatin1_aae02, wi_J5, wm_J5_isLatin1_aae02, ⟨wms_J5_isLatin1_aae02, _, _, _, wm_J5_isLatin1_aae02⟩, zSel_w (gw_in 1328 (by decide +kernel) rfl), wmd_J5_isLatin1_aae02, by decide⟩
theorem wms_J3_checkIndex_8e157 : Cond.static m_J3_checkIndex_8e157.1 ∈ GW := gw_in 710 (by decide +kernel) rfl
theorem wmd_J3_checkIndex_8e157 : m_J3_checkIndex_8e157.1.cls ≠ "java/lang/invoke/MethodHandle" ∧ m_J3_checkIndex_8e157.1.cls ≠ "java/lang/invoke/VarHandle" ∧ (parseMethodDescriptor m_J3_checkIndex_8e157.1.desc).map (fun d => d.parameters.length) = some 3 := by decide +kernel
theorem lk_J0_1059 : zLS RJ0 1059 m_J3_checkIndex_8e157 3 := ⟨rfl, gw_in 709 (by decide +kernel) rfl, wms_J3_checkIndex_8e157, wi_J3, wm_J3_checkIndex_8e157, wmd_J3_checkIndex_8e157, by decide⟩
theorem wms_J0_coder_7d493 : Cond.instanceMethod m_J0_coder_7d493.1 ∈ GW := gw_in 688 (by decide +kernel) rfl
theorem wmt_J0_coder_7d493 : Cond.selects m_J0_coder_7d493.1.cls m_J0_coder_7d493.1 m_J0_coder_7d493.1 ∈ GW := gw_in 689 (by decide +kernel) rfl
theorem wmd_J0_coder_7d493 : m_J0_coder_7d493.1.cls ≠ "java/lang/invoke/MethodHandle" ∧ m_J0_coder_7d493.1.cls ≠ "java/lang/invoke/VarHandle" ∧ (parseMethodDescriptor m_J0_coder_7d493.1.desc).map (fun d => d.parameters.length) = some 0 := by decide +kernel
theorem lk_J0_335 : zLV RJ0 335 m_J0_coder_7d493 0 := ⟨rfl, gw_in 687 (by decide +kernel) rfl, wms_J0_coder_7d493, wmt_J0_coder_7d493, wi_J0, wm_J0_coder_7d493, wmd_J0_coder_7d493, by decide⟩
theorem wms_J0_init_db425 : Cond.instanceMethod m_J0_init_db425.1 ∈ GW := gw_in 1415 (by decide +kernel) rfl
theorem wmd_J0_init_db425 : m_J0_init_db425.1.cls ≠ "java/lang/invoke/MethodHandle" ∧ m_J0_init_db425.1.cls ≠ "java/lang/invoke/VarHandle" ∧ (parseMethodDescriptor m_J0_init_db425.1.desc).map (fun d => d.parameters.length) = some 2 := by decide +kernel
theorem lk_J0_489 : zLI RJ0 489 m_J0_init_db425 2 := ⟨rfl, gw_in 1414 (by decide +kernel) rfl, wms_J0_init_db425, wi_J0, wm_J0_init_db425, rfl, rfl, wmd_J0_init_db425, by decide⟩
theorem wms_J0_isLatin1_aae02 : Cond.instanceMethod m_J0_isLatin1_aae02.1 ∈ GW := gw_in 698 (by decide +kernel) rfl
theorem wmt_J0_isLatin1_aae02 : Cond.selects m_J0_isLatin1_aae02.1.cls m_J0_isLatin1_aae02.1 m_J0_isLatin1_aae02.1 ∈ GW := gw_in 699 (by decide +kernel) rfl
theorem wmd_J0_isLatin1_aae02 : m_J0_isLatin1_aae02.1.cls ≠ "java/lang/invoke/MethodHandle" ∧ m_J0_isLatin1_aae02.1.cls ≠ "java/lang/invoke/VarHandle" ∧ (parseMethodDescriptor m_J0_isLatin1_aae02.1.desc).map (fun d => d.parameters.length) = some 0 := by decide +kernel
theorem lk_J0_492 : zLV RJ0 492 m_J0_isLatin1_aae02 0 := ⟨rfl, gw_in 697 (by decide +kernel) rfl, wms_J0_isLatin1_aae02, wmt_J0_isLatin1_aae02, wi_J0, wm_J0_isLatin1_aae02, wmd_J0_isLatin1_aae02, by decide⟩
theorem wms_J1_charAt_3b067 : Cond.static m_J1_charAt_3b067.1 ∈ GW := gw_in 702 (by decide +kernel) rfl
theorem wmd_J1_charAt_3b067 : m_J1_charAt_3b067.1.cls ≠ "java/lang/invoke/MethodHandle" ∧ m_J1_charAt_3b067.1.cls ≠ "java/lang/invoke/VarHandle" ∧ (parseMethodDescriptor m_J1_charAt_3b067.1.desc).map (fun d => d.parameters.length) = some 2 := by decide +kernel
theorem lk_J0_495 : zLS RJ0 495 m_J1_charAt_3b067 2 := ⟨rfl, gw_in 701 (by decide +kernel) rfl, wms_J1_charAt_3b067, wi_J1, wm_J1_charAt_3b067, wmd_J1_charAt_3b067, by decide⟩
theorem wms_J7_copyOfRange_39247 : Cond.static m_J7_copyOfRange_39247.1 ∈ GW := gw_in 1433 (by decide +kernel) rfl
theorem wmd_J7_copyOfRange_39247 : m_J7_copyOfRange_39247.1.cls ≠ "java/lang/invoke/MethodHandle" ∧ m_J7_copyOfRange_39247.1.cls ≠ "java/lang/invoke/VarHandle" ∧ (parseMethodDescriptor m_J7_copyOfRange_39247.1.desc).map (fun d => d.parameters.length) = some 3 := by decide +kernel
theorem lk_J0_54 : zLS RJ0 54 m_J7_copyOfRange_39247 3 := ⟨rfl, gw_in 1432 (by decide +kernel) rfl, wms_J7_copyOfRange_39247, wi_J7, wm_J7_copyOfRange_39247, wmd_J7_copyOfRange_39247, by decide⟩
theorem wms_J4_length_8abf5 : Cond.instanceMethod m_J4_length_8abf5.1 ∈ GW := gw_in 1427 (by decide +kernel) rfl
theorem wmd_J4_length_8abf5 : m_J4_length_8abf5.1.cls ≠ "java/lang/invoke/MethodHandle" ∧ m_J4_length_8abf5.1.cls ≠ "java/lang/invoke/VarHandle" ∧ (parseMethodDescriptor m_J4_length_8abf5.1.desc).map (fun d => d.parameters.length) = some 0 := by decide +kernel
theorem wms_J5_length_8abf5 : Cond.instanceMethod m_J5_length_8abf5.1 ∈ GW := gw_in 1424 (by decide +kernel) rfl
theorem wmd_J5_length_8abf5 : m_J5_length_8abf5.1.cls ≠ "java/lang/invoke/MethodHandle" ∧ m_J5_length_8abf5.1.cls ≠ "java/lang/invoke/VarHandle" ∧ (parseMethodDescriptor m_J5_length_8abf5.1.desc).map (fun d => d.parameters.length) = some 0 := by decide +kernel
theorem lk_J0_549 : zLU RJ0 549 RJ4 m_J5_length_8abf5.1 m_J4_length_8abf5 0 := ⟨rfl, gw_in 1423 (by decide +kernel) rfl, gw_in 1425 (by decide +kernel) rfl, wms_J4_length_8abf5, wi_J4, wm_J4_length_8abf5, ⟨wms_J5_length_8abf5, _, _, _, wm_J5_length_8abf5⟩, zSel_w (gw_in 1426 (by decide +kernel) rfl), wmd_J5_length_8abf5, by decide⟩
theorem wms_J5_getValue_6d5f1 : Cond.instanceMethod m_J5_getValue_6d5f1.1 ∈ GW := gw_in 1419 (by decide +kernel) rfl
theorem wmd_J5_getValue_6d5f1 : m_J5_getValue_6d5f1.1.cls ≠ "java/lang/invoke/MethodHandle" ∧ m_J5_getValue_6d5f1.1.cls ≠ "java/lang/invoke/VarHandle" ∧ (parseMethodDescriptor m_J5_getValue_6d5f1.1.desc).map (fun d => d.parameters.length) = some 0 := by decide +kernel
theorem lk_J0_552 : zLU RJ0 552 RJ4 m_J5_getValue_6d5f1.1 m_J5_getValue_6d5f1 0 := ⟨rfl, gw_in 1418 (by decide +kernel) rfl, gw_in 1420 (by decide +kernel) rfl, wms_J5_getValue_6d5f1, wi_J5, wm_J5_getValue_6d5f1, ⟨wms_J5_getValue_6d5f1, _, _, _, wm_J5_getValue_6d5f1⟩, zSel_w (gw_in 1421 (by decide +kernel) rfl), wmd_J5_getValue_6d5f1, by decide⟩
theorem wms_J0_checkIndex_df160 : Cond.static m_J0_checkIndex_df160.1 ∈ GW := gw_in 705 (by decide +kernel) rfl
theorem wmd_J0_checkIndex_df160 : m_J0_checkIndex_df160.1.cls ≠ "java/lang/invoke/MethodHandle" ∧ m_J0_checkIndex_df160.1.cls ≠ "java/lang/invoke/VarHandle" ∧ (parseMethodDescriptor m_J0_checkIndex_df160.1.desc).map (fun d => d.parameters.length) = some 2 := by decide +kernel
theorem lk_J1_9 : zLS RJ1 9 m_J0_checkIndex_df160 2 := ⟨rfl, gw_in 704 (by decide +kernel) rfl, wms_J0_checkIndex_df160, wi_J0, wm_J0_checkIndex_df160, wmd_J0_checkIndex_df160, by decide⟩
theorem wms_J5_init_d00df : Cond.instanceMethod m_J5_init_d00df.1 ∈ GW := gw_in 1264 (by decide +kernel) rfl
theorem wmd_J5_init_d00df : m_J5_init_d00df.1.cls ≠ "java/lang/invoke/MethodHandle" ∧ m_J5_init_d00df.1.cls ≠ "java/lang/invoke/VarHandle" ∧ (parseMethodDescriptor m_J5_init_d00df.1.desc).map (fun d => d.parameters.length) = some 1 := by decide +kernel
theorem lk_J4_1 : zLI RJ4 1 m_J5_init_d00df 1 := ⟨rfl, gw_in 1263 (by decide +kernel) rfl, wms_J5_init_d00df, wi_J5, wm_J5_init_d00df, rfl, rfl, wmd_J5_init_d00df, by decide⟩
theorem wms_J0_init_81219 : Cond.instanceMethod m_J0_init_81219.1 ∈ GW := gw_in 1412 (by decide +kernel) rfl
theorem wmd_J0_init_81219 : m_J0_init_81219.1.cls ≠ "java/lang/invoke/MethodHandle" ∧ m_J0_init_81219.1.cls ≠ "java/lang/invoke/VarHandle" ∧ (parseMethodDescriptor m_J0_init_81219.1.desc).map (fun d => d.parameters.length) = some 1 := by decide +kernel
theorem lk_J4_137 : zLI RJ4 137 m_J0_init_81219 1 := ⟨rfl, gw_in 1411 (by decide +kernel) rfl, wms_J0_init_81219, wi_J0, wm_J0_init_81219, rfl, rfl, wmd_J0_init_81219, by decide⟩
theorem wms_J5_append_cf1ce : Cond.instanceMethod m_J5_append_cf1ce.1 ∈ GW := gw_in 1294 (by decide +kernel) rfl
theorem wmd_J5_append_cf1ce : m_J5_append_cf1ce.1.cls ≠ "java/lang/invoke/MethodHandle" ∧ m_J5_append_cf1ce.1.cls ≠ "java/lang/invoke/VarHandle" ∧ (parseMethodDescriptor m_J5_append_cf1ce.1.desc).map (fun d => d.parameters.length) = some 1 := by decide +kernel
theorem lk_J4_29 : zLSU RJ4 29 m_J5_append_cf1ce 1 := ⟨rfl, gw_in 1293 (by decide +kernel) rfl, gw_in 1552 (by decide +kernel) rfl, gw_in 1287 (by decide +kernel) rfl, wms_J5_append_cf1ce, wi_J5, wm_J5_append_cf1ce, ⟨by decide, wmd_J5_append_cf1ce.2.2⟩, by decide⟩
theorem lk_J4_343 : zLSU RJ4 343 m_J5_length_8abf5 0 := ⟨rfl, gw_in 1429 (by decide +kernel) rfl, gw_in 1425 (by decide +kernel) rfl, gw_in 1287 (by decide +kernel) rfl, wms_J5_length_8abf5, wi_J5, wm_J5_length_8abf5, ⟨by decide, wmd_J5_length_8abf5.2.2⟩, by decide⟩
theorem wms_J5_append_c97b9 : Cond.instanceMethod m_J5_append_c97b9.1 ∈ GW := gw_in 1385 (by decide +kernel) rfl
theorem wmd_J5_append_c97b9 : m_J5_append_c97b9.1.cls ≠ "java/lang/invoke/MethodHandle" ∧ m_J5_append_c97b9.1.cls ≠ "java/lang/invoke/VarHandle" ∧ (parseMethodDescriptor m_J5_append_c97b9.1.desc).map (fun d => d.parameters.length) = some 1 := by decide +kernel
theorem lk_J4_53 : zLSU RJ4 53 m_J5_append_c97b9 1 := ⟨rfl, gw_in 1384 (by decide +kernel) rfl, gw_in 1559 (by decide +kernel) rfl, gw_in 1287 (by decide +kernel) rfl, wms_J5_append_c97b9, wi_J5, wm_J5_append_c97b9, ⟨by decide, wmd_J5_append_c97b9.2.2⟩, by decide⟩
theorem wms_J5_ensureCapacityInternal_d00df : Cond.instanceMethod m_J5_ensureCapacityInternal_d00df.1 ∈ GW := gw_in 1302 (by decide +kernel) rfl
theorem wmd_J5_ensureCapacityInternal_d00df : m_J5_ensureCapacityInternal_d00df.1.cls ≠ "java/lang/invoke/MethodHandle" ∧ m_J5_ensureCapacityInternal_d00df.1.cls ≠ "java/lang/invoke/VarHandle" ∧ (parseMethodDescriptor m_J5_ensureCapacityInternal_d00df.1.desc).map (fun d => d.parameters.length) = some 1 := by decide +kernel
theorem lk_J5_100 : zLU RJ5 100 RJ4 m_J5_ensureCapacityInternal_d00df.1 m_J5_ensureCapacityInternal_d00df 1 := ⟨rfl, gw_in 1300 (by decide +kernel) rfl, gw_in 1554 (by decide +kernel) rfl, wms_J5_ensureCapacityInternal_d00df, wi_J5, wm_J5_ensureCapacityInternal_d00df, ⟨wms_J5_ensureCapacityInternal_d00df, _, _, _, wm_J5_ensureCapacityInternal_d00df⟩, zSel_p ⟨by decide +kernel, by decide +kernel⟩ wn_J4 (List.mem_of_getElem? (i := 1301) (by decide +kernel)) wms_J5_ensureCapacityInternal_d00df (z := m_J5_isLatin1_aae02.1) rfl (gw_in 1328 (by decide +kernel) rfl), wmd_J5_ensureCapacityInternal_d00df, by decide⟩
theorem wms_J5_newCapacity_0f7a4 : Cond.instanceMethod m_J5_newCapacity_0f7a4.1 ∈ GW := gw_in 1306 (by decide +kernel) rfl
theorem wmd_J5_newCapacity_0f7a4 : m_J5_newCapacity_0f7a4.1.cls ≠ "java/lang/invoke/MethodHandle" ∧ m_J5_newCapacity_0f7a4.1.cls ≠ "java/lang/invoke/VarHandle" ∧ (parseMethodDescriptor m_J5_newCapacity_0f7a4.1.desc).map (fun d => d.parameters.length) = some 1 := by decide +kernel
theorem lk_J5_104 : zLU RJ5 104 RJ4 m_J5_newCapacity_0f7a4.1 m_J5_newCapacity_0f7a4 1 := ⟨rfl, gw_in 1304 (by decide +kernel) rfl, gw_in 1555 (by decide +kernel) rfl, wms_J5_newCapacity_0f7a4, wi_J5, wm_J5_newCapacity_0f7a4, ⟨wms_J5_newCapacity_0f7a4, _, _, _, wm_J5_newCapacity_0f7a4⟩, zSel_p ⟨by decide +kernel, by decide +kernel⟩ wn_J4 (List.mem_of_getElem? (i := 1305) (by decide +kernel)) wms_J5_newCapacity_0f7a4 (z := m_J5_isLatin1_aae02.1) rfl (gw_in 1328 (by decide +kernel) rfl), wmd_J5_newCapacity_0f7a4, by decide⟩
theorem wms_J7_copyOf_9075b : Cond.static m_J7_copyOf_9075b.1 ∈ GW := gw_in 1318 (by decide +kernel) rfl
theorem wmd_J7_copyOf_9075b : m_J7_copyOf_9075b.1.cls ≠ "java/lang/invoke/MethodHandle" ∧ m_J7_copyOf_9075b.1.cls ≠ "java/lang/invoke/VarHandle" ∧ (parseMethodDescriptor m_J7_copyOf_9075b.1.desc).map (fun d => d.parameters.length) = some 2 := by decide +kernel
theorem lk_J5_108 : zLS RJ5 108 m_J7_copyOf_9075b 2 := ⟨rfl, gw_in 1317 (by decide +kernel) rfl, wms_J7_copyOf_9075b, wi_J7, wm_J7_copyOf_9075b, wmd_J7_copyOf_9075b, by decide⟩
theorem wms_J8_newLength_cabcc : Cond.static m_J8_newLength_cabcc.1 ∈ GW := gw_in 1309 (by decide +kernel) rfl
theorem wmd_J8_newLength_cabcc : m_J8_newLength_cabcc.1.cls ≠ "java/lang/invoke/MethodHandle" ∧ m_J8_newLength_cabcc.1.cls ≠ "java/lang/invoke/VarHandle" ∧ (parseMethodDescriptor m_J8_newLength_cabcc.1.desc).map (fun d => d.parameters.length) = some 3 := by decide +kernel
theorem lk_J5_114 : zLS RJ5 114 m_J8_newLength_cabcc 3 := ⟨rfl, gw_in 1308 (by decide +kernel) rfl, wms_J8_newLength_cabcc, wi_J8, wm_J8_newLength_cabcc, wmd_J8_newLength_cabcc, by decide⟩
theorem wms_J5_putStringAt_47b60 : Cond.instanceMethod m_J5_putStringAt_47b60.1 ∈ GW := gw_in 1348 (by decide +kernel) rfl
theorem wmd_J5_putStringAt_47b60 : m_J5_putStringAt_47b60.1.cls ≠ "java/lang/invoke/MethodHandle" ∧ m_J5_putStringAt_47b60.1.cls ≠ "java/lang/invoke/VarHandle" ∧ (parseMethodDescriptor m_J5_putStringAt_47b60.1.desc).map (fun d => d.parameters.length) = some 2 := by decide +kernel
theorem lk_J5_208 : zLU RJ5 208 RJ4 m_J5_putStringAt_47b60.1 m_J5_putStringAt_47b60 2 := ⟨rfl, gw_in 1346 (by decide +kernel) rfl, gw_in 1556 (by decide +kernel) rfl, wms_J5_putStringAt_47b60, wi_J5, wm_J5_putStringAt_47b60, ⟨wms_J5_putStringAt_47b60, _, _, _, wm_J5_putStringAt_47b60⟩, zSel_p ⟨by decide +kernel, by decide +kernel⟩ wn_J4 (List.mem_of_getElem? (i := 1347) (by decide +kernel)) wms_J5_putStringAt_47b60 (z := m_J5_isLatin1_aae02.1) rfl (gw_in 1328 (by decide +kernel) rfl), wmd_J5_putStringAt_47b60, by decide⟩
theorem wms_J6_stringSize_0f7a4 : Cond.static m_J6_stringSize_0f7a4.1 ∈ GW := gw_in 1388 (by decide +kernel) rfl
theorem wmd_J6_stringSize_0f7a4 : m_J6_stringSize_0f7a4.1.cls ≠ "java/lang/invoke/MethodHandle" ∧ m_J6_stringSize_0f7a4.1.cls ≠ "java/lang/invoke/VarHandle" ∧ (parseMethodDescriptor m_J6_stringSize_0f7a4.1.desc).map (fun d => d.parameters.length) = some 1 := by decide +kernel
theorem lk_J5_245 : zLS RJ5 245 m_J6_stringSize_0f7a4 1 := ⟨rfl, gw_in 1387 (by decide +kernel) rfl, wms_J6_stringSize_0f7a4, wi_J6, wm_J6_stringSize_0f7a4, wmd_J6_stringSize_0f7a4, by decide⟩
theorem wms_J6_getChars_ba4f3 : Cond.static m_J6_getChars_ba4f3.1 ∈ GW := gw_in 1391 (by decide +kernel) rfl
theorem wmd_J6_getChars_ba4f3 : m_J6_getChars_ba4f3.1.cls ≠ "java/lang/invoke/MethodHandle" ∧ m_J6_getChars_ba4f3.1.cls ≠ "java/lang/invoke/VarHandle" ∧ (parseMethodDescriptor m_J6_getChars_ba4f3.1.desc).map (fun d => d.parameters.length) = some 3 := by decide +kernel
theorem lk_J5_248 : zLS RJ5 248 m_J6_getChars_ba4f3 3 := ⟨rfl, gw_in 1390 (by decide +kernel) rfl, wms_J6_getChars_ba4f3, wi_J6, wm_J6_getChars_ba4f3, wmd_J6_getChars_ba4f3, by decide⟩
theorem wms_J0_length_8abf5 : Cond.instanceMethod m_J0_length_8abf5.1 ∈ GW := gw_in 684 (by decide +kernel) rfl
theorem wmt_J0_length_8abf5 : Cond.selects m_J0_length_8abf5.1.cls m_J0_length_8abf5.1 m_J0_length_8abf5.1 ∈ GW := gw_in 685 (by decide +kernel) rfl
theorem wmd_J0_length_8abf5 : m_J0_length_8abf5.1.cls ≠ "java/lang/invoke/MethodHandle" ∧ m_J0_length_8abf5.1.cls ≠ "java/lang/invoke/VarHandle" ∧ (parseMethodDescriptor m_J0_length_8abf5.1.desc).map (fun d => d.parameters.length) = some 0 := by decide +kernel
theorem lk_J5_32 : zLV RJ5 32 m_J0_length_8abf5 0 := ⟨rfl, gw_in 1345 (by decide +kernel) rfl, wms_J0_length_8abf5, wmt_J0_length_8abf5, wi_J0, wm_J0_length_8abf5, wmd_J0_length_8abf5, by decide⟩
theorem wms_J5_inflateIfNeededFor_a7421 : Cond.instanceMethod m_J5_inflateIfNeededFor_a7421.1 ∈ GW := gw_in 1352 (by decide +kernel) rfl
theorem wmd_J5_inflateIfNeededFor_a7421 : m_J5_inflateIfNeededFor_a7421.1.cls ≠ "java/lang/invoke/MethodHandle" ∧ m_J5_inflateIfNeededFor_a7421.1.cls ≠ "java/lang/invoke/VarHandle" ∧ (parseMethodDescriptor m_J5_inflateIfNeededFor_a7421.1.desc).map (fun d => d.parameters.length) = some 1 := by decide +kernel
theorem lk_J5_397 : zLU RJ5 397 RJ4 m_J5_inflateIfNeededFor_a7421.1 m_J5_inflateIfNeededFor_a7421 1 := ⟨rfl, gw_in 1350 (by decide +kernel) rfl, gw_in 1557 (by decide +kernel) rfl, wms_J5_inflateIfNeededFor_a7421, wi_J5, wm_J5_inflateIfNeededFor_a7421, ⟨wms_J5_inflateIfNeededFor_a7421, _, _, _, wm_J5_inflateIfNeededFor_a7421⟩, zSel_p ⟨by decide +kernel, by decide +kernel⟩ wn_J4 (List.mem_of_getElem? (i := 1351) (by decide +kernel)) wms_J5_inflateIfNeededFor_a7421 (z := m_J5_isLatin1_aae02.1) rfl (gw_in 1328 (by decide +kernel) rfl), wmd_J5_inflateIfNeededFor_a7421, by decide⟩
theorem wms_J0_getBytes_840e7 : Cond.instanceMethod m_J0_getBytes_840e7.1 ∈ GW := gw_in 1375 (by decide +kernel) rfl
theorem wmt_J0_getBytes_840e7 : Cond.selects m_J0_getBytes_840e7.1.cls m_J0_getBytes_840e7.1 m_J0_getBytes_840e7.1 ∈ GW := gw_in 1376 (by decide +kernel) rfl
theorem wmd_J0_getBytes_840e7 : m_J0_getBytes_840e7.1.cls ≠ "java/lang/invoke/MethodHandle" ∧ m_J0_getBytes_840e7.1.cls ≠ "java/lang/invoke/VarHandle" ∧ (parseMethodDescriptor m_J0_getBytes_840e7.1.desc).map (fun d => d.parameters.length) = some 3 := by decide +kernel
theorem lk_J5_399 : zLV RJ5 399 m_J0_getBytes_840e7 3 := ⟨rfl, gw_in 1374 (by decide +kernel) rfl, wms_J0_getBytes_840e7, wmt_J0_getBytes_840e7, wi_J0, wm_J0_getBytes_840e7, wmd_J0_getBytes_840e7, by decide⟩
theorem lk_J5_40 : zLV RJ5 40 m_J0_coder_7d493 0 := ⟨rfl, gw_in 1354 (by decide +kernel) rfl, wms_J0_coder_7d493, wmt_J0_coder_7d493, wi_J0, wm_J0_coder_7d493, wmd_J0_coder_7d493, by decide⟩
theorem lk_J5_83 : zLU RJ5 83 RJ4 m_J5_isLatin1_aae02.1 m_J5_isLatin1_aae02 0 := ⟨rfl, gw_in 1325 (by decide +kernel) rfl, gw_in 1327 (by decide +kernel) rfl, wms_J5_isLatin1_aae02, wi_J5, wm_J5_isLatin1_aae02, ⟨wms_J5_isLatin1_aae02, _, _, _, wm_J5_isLatin1_aae02⟩, zSel_w (gw_in 1328 (by decide +kernel) rfl), wmd_J5_isLatin1_aae02, by decide⟩
theorem wms_J9_min_7cf53 : Cond.static m_J9_min_7cf53.1 ∈ GW := gw_in 381 (by decide +kernel) rfl
theorem wmd_J9_min_7cf53 : m_J9_min_7cf53.1.cls ≠ "java/lang/invoke/MethodHandle" ∧ m_J9_min_7cf53.1.cls ≠ "java/lang/invoke/VarHandle" ∧ (parseMethodDescriptor m_J9_min_7cf53.1.desc).map (fun d => d.parameters.length) = some 2 := by decide +kernel
theorem lk_J7_304 : zLS RJ7 304 m_J9_min_7cf53 2 := ⟨rfl, gw_in 844 (by decide +kernel) rfl, wms_J9_min_7cf53, wi_J9, wm_J9_min_7cf53, wmd_J9_min_7cf53, by decide⟩
theorem wms_J7_copyOfRangeByte_39247 : Cond.static m_J7_copyOfRangeByte_39247.1 ∈ GW := gw_in 1436 (by decide +kernel) rfl
theorem wmd_J7_copyOfRangeByte_39247 : m_J7_copyOfRangeByte_39247.1.cls ≠ "java/lang/invoke/MethodHandle" ∧ m_J7_copyOfRangeByte_39247.1.cls ≠ "java/lang/invoke/VarHandle" ∧ (parseMethodDescriptor m_J7_copyOfRangeByte_39247.1.desc).map (fun d => d.parameters.length) = some 3 := by decide +kernel
theorem lk_J7_339 : zLS RJ7 339 m_J7_copyOfRangeByte_39247 3 := ⟨rfl, gw_in 1435 (by decide +kernel) rfl, wms_J7_copyOfRangeByte_39247, wi_J7, wm_J7_copyOfRangeByte_39247, wmd_J7_copyOfRangeByte_39247, by decide⟩
theorem wms_J7_checkLength_df160 : Cond.static m_J7_checkLength_df160.1 ∈ GW := gw_in 1439 (by decide +kernel) rfl
theorem wmd_J7_checkLength_df160 : m_J7_checkLength_df160.1.cls ≠ "java/lang/invoke/MethodHandle" ∧ m_J7_checkLength_df160.1.cls ≠ "java/lang/invoke/VarHandle" ∧ (parseMethodDescriptor m_J7_checkLength_df160.1.desc).map (fun d => d.parameters.length) = some 2 := by decide +kernel
theorem lk_J7_343 : zLS RJ7 343 m_J7_checkLength_df160 2 := ⟨rfl, gw_in 1438 (by decide +kernel) rfl, wms_J7_checkLength_df160, wi_J7, wm_J7_checkLength_df160, wmd_J7_checkLength_df160, by decide⟩
theorem wms_J9_max_7cf53 : Cond.static m_J9_max_7cf53.1 ∈ GW := gw_in 112 (by decide +kernel) rfl
theorem wmd_J9_max_7cf53 : m_J9_max_7cf53.1.cls ≠ "java/lang/invoke/MethodHandle" ∧ m_J9_max_7cf53.1.cls ≠ "java/lang/invoke/VarHandle" ∧ (parseMethodDescriptor m_J9_max_7cf53.1.desc).map (fun d => d.parameters.length) = some 2 := by decide +kernel
theorem lk_J8_194 : zLS RJ8 194 m_J9_max_7cf53 2 := ⟨rfl, gw_in 1311 (by decide +kernel) rfl, wms_J9_max_7cf53, wi_J9, wm_J9_max_7cf53, wmd_J9_max_7cf53, by decide⟩
theorem wms_X8_cancel : Cond.instanceMethod m_X8_cancel.1 ∈ GW := gw_in 1144 (by decide +kernel) rfl
theorem wmt_X8_cancel : Cond.selects m_X8_cancel.1.cls m_X8_cancel.1 m_X8_cancel.1 ∈ GW := gw_in 1145 (by decide +kernel) rfl
theorem wmd_X8_cancel : m_X8_cancel.1.cls ≠ "java/lang/invoke/MethodHandle" ∧ m_X8_cancel.1.cls ≠ "java/lang/invoke/VarHandle" ∧ (parseMethodDescriptor m_X8_cancel.1.desc).map (fun d => d.parameters.length) = some 2 := by decide +kernel
theorem lk_L_100 : zLV RL 100 m_X8_cancel 2 := ⟨rfl, gw_in 1143 (by decide +kernel) rfl, wms_X8_cancel, wmt_X8_cancel, wi_X8, wm_X8_cancel, wmd_X8_cancel, by decide⟩
theorem wms_X8_pass : Cond.instanceMethod m_X8_pass.1 ∈ GW := gw_in 1156 (by decide +kernel) rfl
theorem wmt_X8_pass : Cond.selects m_X8_pass.1.cls m_X8_pass.1 m_X8_pass.1 ∈ GW := gw_in 1157 (by decide +kernel) rfl
theorem wmd_X8_pass : m_X8_pass.1.cls ≠ "java/lang/invoke/MethodHandle" ∧ m_X8_pass.1.cls ≠ "java/lang/invoke/VarHandle" ∧ (parseMethodDescriptor m_X8_pass.1.desc).map (fun d => d.parameters.length) = some 0 := by decide +kernel
theorem lk_L_103 : zLV RL 103 m_X8_pass 0 := ⟨rfl, gw_in 1155 (by decide +kernel) rfl, wms_X8_pass, wmt_X8_pass, wi_X8, wm_X8_pass, wmd_X8_pass, by decide⟩
theorem wms_X8_give : Cond.instanceMethod m_X8_give.1 ∈ GW := gw_in 1167 (by decide +kernel) rfl
theorem wmt_X8_give : Cond.selects m_X8_give.1.cls m_X8_give.1 m_X8_give.1 ∈ GW := gw_in 1168 (by decide +kernel) rfl
theorem wmd_X8_give : m_X8_give.1.cls ≠ "java/lang/invoke/MethodHandle" ∧ m_X8_give.1.cls ≠ "java/lang/invoke/VarHandle" ∧ (parseMethodDescriptor m_X8_give.1.desc).map (fun d => d.parameters.length) = some 3 := by decide +kernel
theorem lk_L_106 : zLV RL 106 m_X8_give 3 := ⟨rfl, gw_in 1166 (by decide +kernel) rfl, wms_X8_give, wmt_X8_give, wi_X8, wm_X8_give, wmd_X8_give, by decide⟩
theorem wms_X8_discard : Cond.instanceMethod m_X8_discard.1 ∈ GW := gw_in 1176 (by decide +kernel) rfl
theorem wmt_X8_discard : Cond.selects m_X8_discard.1.cls m_X8_discard.1 m_X8_discard.1 ∈ GW := gw_in 1177 (by decide +kernel) rfl
theorem wmd_X8_discard : m_X8_discard.1.cls ≠ "java/lang/invoke/MethodHandle" ∧ m_X8_discard.1.cls ≠ "java/lang/invoke/VarHandle" ∧ (parseMethodDescriptor m_X8_discard.1.desc).map (fun d => d.parameters.length) = some 2 := by decide +kernel
theorem lk_L_109 : zLV RL 109 m_X8_discard 2 := ⟨rfl, gw_in 1175 (by decide +kernel) rfl, wms_X8_discard, wmt_X8_discard, wi_X8, wm_X8_discard, wmd_X8_discard, by decide⟩
theorem wms_L_isNeutral : Cond.static m_L_isNeutral.1 ∈ GW := gw_in 508 (by decide +kernel) rfl
theorem wmd_L_isNeutral : m_L_isNeutral.1.cls ≠ "java/lang/invoke/MethodHandle" ∧ m_L_isNeutral.1.cls ≠ "java/lang/invoke/VarHandle" ∧ (parseMethodDescriptor m_L_isNeutral.1.desc).map (fun d => d.parameters.length) = some 1 := by decide +kernel
theorem lk_L_112 : zLS RL 112 m_L_isNeutral 1 := ⟨rfl, gw_in 507 (by decide +kernel) rfl, wms_L_isNeutral, wi_L, wm_L_isNeutral, wmd_L_isNeutral, by decide⟩
theorem wms_L_times : Cond.static m_L_times.1 ∈ GW := gw_in 511 (by decide +kernel) rfl
theorem wmd_L_times : m_L_times.1.cls ≠ "java/lang/invoke/MethodHandle" ∧ m_L_times.1.cls ≠ "java/lang/invoke/VarHandle" ∧ (parseMethodDescriptor m_L_times.1.desc).map (fun d => d.parameters.length) = some 2 := by decide +kernel
theorem lk_L_116 : zLS RL 116 m_L_times 2 := ⟨rfl, gw_in 510 (by decide +kernel) rfl, wms_L_times, wi_L, wm_L_times, wmd_L_times, by decide⟩
theorem wms_L_neutral : Cond.static m_L_neutral.1 ∈ GW := gw_in 545 (by decide +kernel) rfl
theorem wmd_L_neutral : m_L_neutral.1.cls ≠ "java/lang/invoke/MethodHandle" ∧ m_L_neutral.1.cls ≠ "java/lang/invoke/VarHandle" ∧ (parseMethodDescriptor m_L_neutral.1.desc).map (fun d => d.parameters.length) = some 1 := by decide +kernel
theorem lk_L_120 : zLS RL 120 m_L_neutral 1 := ⟨rfl, gw_in 1186 (by decide +kernel) rfl, wms_L_neutral, wi_L, wm_L_neutral, wmd_L_neutral, by decide⟩
theorem wms_X11_below : Cond.instanceMethod m_X11_below.1 ∈ GW := gw_in 420 (by decide +kernel) rfl
theorem wmt_X11_below : Cond.selects m_X11_below.1.cls m_X11_below.1 m_X11_below.1 ∈ GW := gw_in 421 (by decide +kernel) rfl
theorem wmd_X11_below : m_X11_below.1.cls ≠ "java/lang/invoke/MethodHandle" ∧ m_X11_below.1.cls ≠ "java/lang/invoke/VarHandle" ∧ (parseMethodDescriptor m_X11_below.1.desc).map (fun d => d.parameters.length) = some 1 := by decide +kernel
theorem lk_L_124 : zLV RL 124 m_X11_below 1 := ⟨rfl, gw_in 419 (by decide +kernel) rfl, wms_X11_below, wmt_X11_below, wi_X11, wm_X11_below, wmd_X11_below, by decide⟩
theorem wms_X8_append : Cond.instanceMethod m_X8_append.1 ∈ GW := gw_in 1208 (by decide +kernel) rfl
theorem wmt_X8_append : Cond.selects m_X8_append.1.cls m_X8_append.1 m_X8_append.1 ∈ GW := gw_in 1209 (by decide +kernel) rfl
theorem wmd_X8_append : m_X8_append.1.cls ≠ "java/lang/invoke/MethodHandle" ∧ m_X8_append.1.cls ≠ "java/lang/invoke/VarHandle" ∧ (parseMethodDescriptor m_X8_append.1.desc).map (fun d => d.parameters.length) = some 5 := by decide +kernel
theorem lk_L_13 : zLV RL 13 m_X8_append 5 := ⟨rfl, gw_in 1207 (by decide +kernel) rfl, wms_X8_append, wmt_X8_append, wi_X8, wm_X8_append, wmd_X8_append, by decide⟩
theorem wms_L_write : Cond.static m_L_write.1 ∈ GW := gw_in 1197 (by decide +kernel) rfl
theorem wmd_L_write : m_L_write.1.cls ≠ "java/lang/invoke/MethodHandle" ∧ m_L_write.1.cls ≠ "java/lang/invoke/VarHandle" ∧ (parseMethodDescriptor m_L_write.1.desc).map (fun d => d.parameters.length) = some 3 := by decide +kernel
theorem lk_L_131 : zLS RL 131 m_L_write 3 := ⟨rfl, gw_in 1196 (by decide +kernel) rfl, wms_L_write, wi_L, wm_L_write, wmd_L_write, by decide⟩
theorem wms_L_writeNumber : Cond.static m_L_writeNumber.1 ∈ GW := gw_in 1221 (by decide +kernel) rfl
theorem wmd_L_writeNumber : m_L_writeNumber.1.cls ≠ "java/lang/invoke/MethodHandle" ∧ m_L_writeNumber.1.cls ≠ "java/lang/invoke/VarHandle" ∧ (parseMethodDescriptor m_L_writeNumber.1.desc).map (fun d => d.parameters.length) = some 3 := by decide +kernel
theorem lk_L_137 : zLS RL 137 m_L_writeNumber 3 := ⟨rfl, gw_in 1220 (by decide +kernel) rfl, wms_L_writeNumber, wi_L, wm_L_writeNumber, wmd_L_writeNumber, by decide⟩
theorem wms_X12_init : Cond.instanceMethod m_X12_init.1 ∈ GW := gw_in 427 (by decide +kernel) rfl
theorem wmd_X12_init : m_X12_init.1.cls ≠ "java/lang/invoke/MethodHandle" ∧ m_X12_init.1.cls ≠ "java/lang/invoke/VarHandle" ∧ (parseMethodDescriptor m_X12_init.1.desc).map (fun d => d.parameters.length) = some 0 := by decide +kernel
theorem lk_L_144 : zLIN RL 144 m_X12_init 0 := ⟨rfl, List.mem_of_getElem? (i := 426) (by decide +kernel), wms_X12_init, wi_X12, wm_X12_init, rfl, rfl, wmd_X12_init, by decide⟩
theorem wms_L_writeNumbers : Cond.static m_L_writeNumbers.1 ∈ GW := gw_in 1194 (by decide +kernel) rfl
theorem wmd_L_writeNumbers : m_L_writeNumbers.1.cls ≠ "java/lang/invoke/MethodHandle" ∧ m_L_writeNumbers.1.cls ≠ "java/lang/invoke/VarHandle" ∧ (parseMethodDescriptor m_L_writeNumbers.1.desc).map (fun d => d.parameters.length) = some 4 := by decide +kernel
theorem lk_L_151 : zLS RL 151 m_L_writeNumbers 4 := ⟨rfl, gw_in 1193 (by decide +kernel) rfl, wms_L_writeNumbers, wi_L, wm_L_writeNumbers, wmd_L_writeNumbers, by decide⟩
theorem wms_L_random : Cond.static m_L_random.1 ∈ GW := gw_in 1184 (by decide +kernel) rfl
theorem wmd_L_random : m_L_random.1.cls ≠ "java/lang/invoke/MethodHandle" ∧ m_L_random.1.cls ≠ "java/lang/invoke/VarHandle" ∧ (parseMethodDescriptor m_L_random.1.desc).map (fun d => d.parameters.length) = some 2 := by decide +kernel
theorem lk_L_170 : zLS RL 170 m_L_random 2 := ⟨rfl, gw_in 1183 (by decide +kernel) rfl, wms_L_random, wi_L, wm_L_random, wmd_L_random, by decide⟩
theorem wms_X9_init : Cond.instanceMethod m_X9_init.1 ∈ GW := gw_in 390 (by decide +kernel) rfl
theorem wmd_X9_init : m_X9_init.1.cls ≠ "java/lang/invoke/MethodHandle" ∧ m_X9_init.1.cls ≠ "java/lang/invoke/VarHandle" ∧ (parseMethodDescriptor m_X9_init.1.desc).map (fun d => d.parameters.length) = some 3 := by decide +kernel
theorem lk_L_174 : zLI RL 174 m_X9_init 3 := ⟨rfl, gw_in 389 (by decide +kernel) rfl, wms_X9_init, wi_X9, wm_X9_init, rfl, rfl, wmd_X9_init, by decide⟩
theorem wms_L_with : Cond.static m_L_with.1 ∈ GW := gw_in 531 (by decide +kernel) rfl
theorem wmd_L_with : m_L_with.1.cls ≠ "java/lang/invoke/MethodHandle" ∧ m_L_with.1.cls ≠ "java/lang/invoke/VarHandle" ∧ (parseMethodDescriptor m_L_with.1.desc).map (fun d => d.parameters.length) = some 2 := by decide +kernel
theorem lk_L_177 : zLS RL 177 m_L_with 2 := ⟨rfl, gw_in 1187 (by decide +kernel) rfl, wms_L_with, wi_L, wm_L_with, wmd_L_with, by decide⟩
theorem wms_L_number : Cond.static m_L_number.1 ∈ GW := gw_in 1181 (by decide +kernel) rfl
theorem wmd_L_number : m_L_number.1.cls ≠ "java/lang/invoke/MethodHandle" ∧ m_L_number.1.cls ≠ "java/lang/invoke/VarHandle" ∧ (parseMethodDescriptor m_L_number.1.desc).map (fun d => d.parameters.length) = some 1 := by decide +kernel
theorem lk_L_185 : zLS RL 185 m_L_number 1 := ⟨rfl, gw_in 1180 (by decide +kernel) rfl, wms_L_number, wi_L, wm_L_number, wmd_L_number, by decide⟩
theorem wms_L_load : Cond.static m_L_load.1 ∈ GW := gw_in 568 (by decide +kernel) rfl
theorem wmd_L_load : m_L_load.1.cls ≠ "java/lang/invoke/MethodHandle" ∧ m_L_load.1.cls ≠ "java/lang/invoke/VarHandle" ∧ (parseMethodDescriptor m_L_load.1.desc).map (fun d => d.parameters.length) = some 2 := by decide +kernel
theorem lk_L_19 : zLSW RL 19 m_L_load 2 := ⟨by decide, gw_in 567 (by decide +kernel) rfl, wms_L_load, wi_L, wm_L_load, wmd_L_load, by decide⟩
theorem wms_X10_random : Cond.static m_X10_random.1 ∈ GW := gw_in 1230 (by decide +kernel) rfl
theorem wmd_X10_random : m_X10_random.1.cls ≠ "java/lang/invoke/MethodHandle" ∧ m_X10_random.1.cls ≠ "java/lang/invoke/VarHandle" ∧ (parseMethodDescriptor m_X10_random.1.desc).map (fun d => d.parameters.length) = some 2 := by decide +kernel
theorem lk_L_197 : zLS RL 197 m_X10_random 2 := ⟨rfl, gw_in 1229 (by decide +kernel) rfl, wms_X10_random, wi_X10, wm_X10_random, wmd_X10_random, by decide⟩
theorem wms_X10_text : Cond.instanceMethod m_X10_text.1 ∈ GW := gw_in 1255 (by decide +kernel) rfl
theorem wmt_X10_text : Cond.selects m_X10_text.1.cls m_X10_text.1 m_X10_text.1 ∈ GW := gw_in 1256 (by decide +kernel) rfl
theorem wmd_X10_text : m_X10_text.1.cls ≠ "java/lang/invoke/MethodHandle" ∧ m_X10_text.1.cls ≠ "java/lang/invoke/VarHandle" ∧ (parseMethodDescriptor m_X10_text.1.desc).map (fun d => d.parameters.length) = some 1 := by decide +kernel
theorem lk_L_208 : zLV RL 208 m_X10_text 1 := ⟨rfl, gw_in 1254 (by decide +kernel) rfl, wms_X10_text, wmt_X10_text, wi_X10, wm_X10_text, wmd_X10_text, by decide⟩
theorem wms_L_loadText : Cond.static m_L_loadText.1 ∈ GW := gw_in 1492 (by decide +kernel) rfl
theorem wmd_L_loadText : m_L_loadText.1.cls ≠ "java/lang/invoke/MethodHandle" ∧ m_L_loadText.1.cls ≠ "java/lang/invoke/VarHandle" ∧ (parseMethodDescriptor m_L_loadText.1.desc).map (fun d => d.parameters.length) = some 2 := by decide +kernel
theorem lk_L_214 : zLS RL 214 m_L_loadText 2 := ⟨rfl, gw_in 1491 (by decide +kernel) rfl, wms_L_loadText, wi_L, wm_L_loadText, wmd_L_loadText, by decide⟩
theorem wms_X8_checksum : Cond.instanceMethod m_X8_checksum.1 ∈ GW := gw_in 1498 (by decide +kernel) rfl
theorem wmt_X8_checksum : Cond.selects m_X8_checksum.1.cls m_X8_checksum.1 m_X8_checksum.1 ∈ GW := gw_in 1499 (by decide +kernel) rfl
theorem wmd_X8_checksum : m_X8_checksum.1.cls ≠ "java/lang/invoke/MethodHandle" ∧ m_X8_checksum.1.cls ≠ "java/lang/invoke/VarHandle" ∧ (parseMethodDescriptor m_X8_checksum.1.desc).map (fun d => d.parameters.length) = some 0 := by decide +kernel
theorem lk_L_218 : zLV RL 218 m_X8_checksum 0 := ⟨rfl, gw_in 1497 (by decide +kernel) rfl, wms_X8_checksum, wmt_X8_checksum, wi_X8, wm_X8_checksum, wmd_X8_checksum, by decide⟩
theorem wms_X12_sum : Cond.instanceMethod m_X12_sum.1 ∈ GW := gw_in 1524 (by decide +kernel) rfl
theorem wmt_X12_sum : Cond.selects m_X12_sum.1.cls m_X12_sum.1 m_X12_sum.1 ∈ GW := gw_in 1525 (by decide +kernel) rfl
theorem wmd_X12_sum : m_X12_sum.1.cls ≠ "java/lang/invoke/MethodHandle" ∧ m_X12_sum.1.cls ≠ "java/lang/invoke/VarHandle" ∧ (parseMethodDescriptor m_X12_sum.1.desc).map (fun d => d.parameters.length) = some 0 := by decide +kernel
theorem lk_L_222 : zLV RL 222 m_X12_sum 0 := ⟨rfl, gw_in 1523 (by decide +kernel) rfl, wms_X12_sum, wmt_X12_sum, wi_X12, wm_X12_sum, wmd_X12_sum, by decide⟩
theorem wms_X8_product : Cond.instanceMethod m_X8_product.1 ∈ GW := gw_in 1520 (by decide +kernel) rfl
theorem wmt_X8_product : Cond.selects m_X8_product.1.cls m_X8_product.1 m_X8_product.1 ∈ GW := gw_in 1521 (by decide +kernel) rfl
theorem wmd_X8_product : m_X8_product.1.cls ≠ "java/lang/invoke/MethodHandle" ∧ m_X8_product.1.cls ≠ "java/lang/invoke/VarHandle" ∧ (parseMethodDescriptor m_X8_product.1.desc).map (fun d => d.parameters.length) = some 0 := by decide +kernel
theorem lk_L_225 : zLV RL 225 m_X8_product 0 := ⟨rfl, gw_in 1534 (by decide +kernel) rfl, wms_X8_product, wmt_X8_product, wi_X8, wm_X8_product, wmd_X8_product, by decide⟩
theorem lk_L_23 : zLV RL 23 m_J0_length_8abf5 0 := ⟨rfl, gw_in 1199 (by decide +kernel) rfl, wms_J0_length_8abf5, wmt_J0_length_8abf5, wi_J0, wm_J0_length_8abf5, wmd_J0_length_8abf5, by decide⟩
theorem wms_X12_product : Cond.instanceMethod m_X12_product.1 ∈ GW := gw_in 541 (by decide +kernel) rfl
theorem wmt_X12_product : Cond.selects m_X12_product.1.cls m_X12_product.1 m_X12_product.1 ∈ GW := gw_in 542 (by decide +kernel) rfl
theorem wmd_X12_product : m_X12_product.1.cls ≠ "java/lang/invoke/MethodHandle" ∧ m_X12_product.1.cls ≠ "java/lang/invoke/VarHandle" ∧ (parseMethodDescriptor m_X12_product.1.desc).map (fun d => d.parameters.length) = some 2 := by decide +kernel
theorem lk_L_231 : zLV RL 231 m_X12_product 2 := ⟨rfl, gw_in 1535 (by decide +kernel) rfl, wms_X12_product, wmt_X12_product, wi_X12, wm_X12_product, wmd_X12_product, by decide⟩
theorem wms_L_state : Cond.static m_L_state.1 ∈ GW := gw_in 1537 (by decide +kernel) rfl
theorem wmd_L_state : m_L_state.1.cls ≠ "java/lang/invoke/MethodHandle" ∧ m_L_state.1.cls ≠ "java/lang/invoke/VarHandle" ∧ (parseMethodDescriptor m_L_state.1.desc).map (fun d => d.parameters.length) = some 2 := by decide +kernel
theorem lk_L_234 : zLSW RL 234 m_L_state 2 := ⟨by decide, gw_in 1536 (by decide +kernel) rfl, wms_L_state, wi_L, wm_L_state, wmd_L_state, by decide⟩
theorem wms_X12_told : Cond.instanceMethod m_X12_told.1 ∈ GW := gw_in 1529 (by decide +kernel) rfl
theorem wmt_X12_told : Cond.selects m_X12_told.1.cls m_X12_told.1 m_X12_told.1 ∈ GW := gw_in 1530 (by decide +kernel) rfl
theorem wmd_X12_told : m_X12_told.1.cls ≠ "java/lang/invoke/MethodHandle" ∧ m_X12_told.1.cls ≠ "java/lang/invoke/VarHandle" ∧ (parseMethodDescriptor m_X12_told.1.desc).map (fun d => d.parameters.length) = some 1 := by decide +kernel
theorem lk_L_236 : zLV RL 236 m_X12_told 1 := ⟨rfl, gw_in 1540 (by decide +kernel) rfl, wms_X12_told, wmt_X12_told, wi_X12, wm_X12_told, wmd_X12_told, by decide⟩
theorem wms_L_player : Cond.static m_L_player.1 ∈ GW := gw_in 1542 (by decide +kernel) rfl
theorem wmd_L_player : m_L_player.1.cls ≠ "java/lang/invoke/MethodHandle" ∧ m_L_player.1.cls ≠ "java/lang/invoke/VarHandle" ∧ (parseMethodDescriptor m_L_player.1.desc).map (fun d => d.parameters.length) = some 3 := by decide +kernel
theorem lk_L_239 : zLSW RL 239 m_L_player 3 := ⟨by decide, gw_in 1541 (by decide +kernel) rfl, wms_L_player, wi_L, wm_L_player, wmd_L_player, by decide⟩
theorem wms_L_card : Cond.static m_L_card.1 ∈ GW := gw_in 867 (by decide +kernel) rfl
theorem wmd_L_card : m_L_card.1.cls ≠ "java/lang/invoke/MethodHandle" ∧ m_L_card.1.cls ≠ "java/lang/invoke/VarHandle" ∧ (parseMethodDescriptor m_L_card.1.desc).map (fun d => d.parameters.length) = some 4 := by decide +kernel
theorem lk_L_242 : zLSW RL 242 m_L_card 4 := ⟨by decide, gw_in 866 (by decide +kernel) rfl, wms_L_card, wi_L, wm_L_card, wmd_L_card, by decide⟩
theorem wms_X12_price : Cond.instanceMethod m_X12_price.1 ∈ GW := gw_in 501 (by decide +kernel) rfl
theorem wmt_X12_price : Cond.selects m_X12_price.1.cls m_X12_price.1 m_X12_price.1 ∈ GW := gw_in 502 (by decide +kernel) rfl
theorem wmd_X12_price : m_X12_price.1.cls ≠ "java/lang/invoke/MethodHandle" ∧ m_X12_price.1.cls ≠ "java/lang/invoke/VarHandle" ∧ (parseMethodDescriptor m_X12_price.1.desc).map (fun d => d.parameters.length) = some 1 := by decide +kernel
theorem lk_L_245 : zLV RL 245 m_X12_price 1 := ⟨rfl, gw_in 1545 (by decide +kernel) rfl, wms_X12_price, wmt_X12_price, wi_X12, wm_X12_price, wmd_X12_price, by decide⟩
theorem wms_L_bid : Cond.static m_L_bid.1 ∈ GW := gw_in 1547 (by decide +kernel) rfl
theorem wmd_L_bid : m_L_bid.1.cls ≠ "java/lang/invoke/MethodHandle" ∧ m_L_bid.1.cls ≠ "java/lang/invoke/VarHandle" ∧ (parseMethodDescriptor m_L_bid.1.desc).map (fun d => d.parameters.length) = some 3 := by decide +kernel
theorem lk_L_249 : zLSW RL 249 m_L_bid 3 := ⟨by decide, gw_in 1546 (by decide +kernel) rfl, wms_L_bid, wi_L, wm_L_bid, wmd_L_bid, by decide⟩
theorem wms_X8_init : Cond.instanceMethod m_X8_init.1 ∈ GW := gw_in 74 (by decide +kernel) rfl
theorem wmd_X8_init : m_X8_init.1.cls ≠ "java/lang/invoke/MethodHandle" ∧ m_X8_init.1.cls ≠ "java/lang/invoke/VarHandle" ∧ (parseMethodDescriptor m_X8_init.1.desc).map (fun d => d.parameters.length) = some 0 := by decide +kernel
theorem lk_L_253 : zLI RL 253 m_X8_init 0 := ⟨rfl, gw_in 73 (by decide +kernel) rfl, wms_X8_init, wi_X8, wm_X8_init, rfl, rfl, wmd_X8_init, by decide⟩
theorem wms_X11_init : Cond.instanceMethod m_X11_init.1 ∈ GW := gw_in 412 (by decide +kernel) rfl
theorem wmd_X11_init : m_X11_init.1.cls ≠ "java/lang/invoke/MethodHandle" ∧ m_X11_init.1.cls ≠ "java/lang/invoke/VarHandle" ∧ (parseMethodDescriptor m_X11_init.1.desc).map (fun d => d.parameters.length) = some 1 := by decide +kernel
theorem lk_L_254 : zLI RL 254 m_X11_init 1 := ⟨rfl, gw_in 411 (by decide +kernel) rfl, wms_X11_init, wi_X11, wm_X11_init, rfl, rfl, wmd_X11_init, by decide⟩
theorem wms_L_agrees : Cond.static m_L_agrees.1 ∈ GW := gw_in 1495 (by decide +kernel) rfl
theorem wmd_L_agrees : m_L_agrees.1.cls ≠ "java/lang/invoke/MethodHandle" ∧ m_L_agrees.1.cls ≠ "java/lang/invoke/VarHandle" ∧ (parseMethodDescriptor m_L_agrees.1.desc).map (fun d => d.parameters.length) = some 2 := by decide +kernel
theorem lk_L_257 : zLS RL 257 m_L_agrees 2 := ⟨rfl, gw_in 1494 (by decide +kernel) rfl, wms_L_agrees, wi_L, wm_L_agrees, wmd_L_agrees, by decide⟩
theorem wms_X8_errorOffset : Cond.instanceMethod m_X8_errorOffset.1 ∈ GW := gw_in 346 (by decide +kernel) rfl
theorem wmt_X8_errorOffset : Cond.selects m_X8_errorOffset.1.cls m_X8_errorOffset.1 m_X8_errorOffset.1 ∈ GW := gw_in 347 (by decide +kernel) rfl
theorem wmd_X8_errorOffset : m_X8_errorOffset.1.cls ≠ "java/lang/invoke/MethodHandle" ∧ m_X8_errorOffset.1.cls ≠ "java/lang/invoke/VarHandle" ∧ (parseMethodDescriptor m_X8_errorOffset.1.desc).map (fun d => d.parameters.length) = some 0 := by decide +kernel
theorem lk_L_261 : zLV RL 261 m_X8_errorOffset 0 := ⟨rfl, gw_in 345 (by decide +kernel) rfl, wms_X8_errorOffset, wmt_X8_errorOffset, wi_X8, wm_X8_errorOffset, wmd_X8_errorOffset, by decide⟩
theorem wms_X8_undo : Cond.instanceMethod m_X8_undo.1 ∈ GW := gw_in 350 (by decide +kernel) rfl
theorem wmt_X8_undo : Cond.selects m_X8_undo.1.cls m_X8_undo.1 m_X8_undo.1 ∈ GW := gw_in 351 (by decide +kernel) rfl
theorem wmd_X8_undo : m_X8_undo.1.cls ≠ "java/lang/invoke/MethodHandle" ∧ m_X8_undo.1.cls ≠ "java/lang/invoke/VarHandle" ∧ (parseMethodDescriptor m_X8_undo.1.desc).map (fun d => d.parameters.length) = some 0 := by decide +kernel
theorem lk_L_264 : zLV RL 264 m_X8_undo 0 := ⟨rfl, gw_in 349 (by decide +kernel) rfl, wms_X8_undo, wmt_X8_undo, wi_X8, wm_X8_undo, wmd_X8_undo, by decide⟩
theorem wms_L_play : Cond.static m_L_play.1 ∈ GW := gw_in 1073 (by decide +kernel) rfl
theorem wmd_L_play : m_L_play.1.cls ≠ "java/lang/invoke/MethodHandle" ∧ m_L_play.1.cls ≠ "java/lang/invoke/VarHandle" ∧ (parseMethodDescriptor m_L_play.1.desc).map (fun d => d.parameters.length) = some 2 := by decide +kernel
theorem lk_L_267 : zLSW RL 267 m_L_play 2 := ⟨by decide, gw_in 1072 (by decide +kernel) rfl, wms_L_play, wi_L, wm_L_play, wmd_L_play, by decide⟩
theorem wms_L_pass : Cond.static m_L_pass.1 ∈ GW := gw_in 1153 (by decide +kernel) rfl
theorem wmd_L_pass : m_L_pass.1.cls ≠ "java/lang/invoke/MethodHandle" ∧ m_L_pass.1.cls ≠ "java/lang/invoke/VarHandle" ∧ (parseMethodDescriptor m_L_pass.1.desc).map (fun d => d.parameters.length) = some 1 := by decide +kernel
theorem lk_L_269 : zLSW RL 269 m_L_pass 1 := ⟨by decide, gw_in 1152 (by decide +kernel) rfl, wms_L_pass, wi_L, wm_L_pass, wmd_L_pass, by decide⟩
theorem wms_L_give : Cond.static m_L_give.1 ∈ GW := gw_in 1164 (by decide +kernel) rfl
theorem wmd_L_give : m_L_give.1.cls ≠ "java/lang/invoke/MethodHandle" ∧ m_L_give.1.cls ≠ "java/lang/invoke/VarHandle" ∧ (parseMethodDescriptor m_L_give.1.desc).map (fun d => d.parameters.length) = some 4 := by decide +kernel
theorem lk_L_272 : zLSW RL 272 m_L_give 4 := ⟨by decide, gw_in 1163 (by decide +kernel) rfl, wms_L_give, wi_L, wm_L_give, wmd_L_give, by decide⟩
theorem wms_L_order : Cond.static m_L_order.1 ∈ GW := gw_in 979 (by decide +kernel) rfl
theorem wmd_L_order : m_L_order.1.cls ≠ "java/lang/invoke/MethodHandle" ∧ m_L_order.1.cls ≠ "java/lang/invoke/VarHandle" ∧ (parseMethodDescriptor m_L_order.1.desc).map (fun d => d.parameters.length) = some 2 := by decide +kernel
theorem lk_L_274 : zLSW RL 274 m_L_order 2 := ⟨by decide, gw_in 978 (by decide +kernel) rfl, wms_L_order, wi_L, wm_L_order, wmd_L_order, by decide⟩
theorem wms_L_randomSale : Cond.static m_L_randomSale.1 ∈ GW := gw_in 1190 (by decide +kernel) rfl
theorem wmd_L_randomSale : m_L_randomSale.1.cls ≠ "java/lang/invoke/MethodHandle" ∧ m_L_randomSale.1.cls ≠ "java/lang/invoke/VarHandle" ∧ (parseMethodDescriptor m_L_randomSale.1.desc).map (fun d => d.parameters.length) = some 4 := by decide +kernel
theorem lk_L_276 : zLS RL 276 m_L_randomSale 4 := ⟨rfl, gw_in 1189 (by decide +kernel) rfl, wms_L_randomSale, wi_L, wm_L_randomSale, wmd_L_randomSale, by decide⟩
theorem wms_X12_copy : Cond.instanceMethod m_X12_copy.1 ∈ GW := gw_in 480 (by decide +kernel) rfl
theorem wmt_X12_copy : Cond.selects m_X12_copy.1.cls m_X12_copy.1 m_X12_copy.1 ∈ GW := gw_in 481 (by decide +kernel) rfl
theorem wmd_X12_copy : m_X12_copy.1.cls ≠ "java/lang/invoke/MethodHandle" ∧ m_X12_copy.1.cls ≠ "java/lang/invoke/VarHandle" ∧ (parseMethodDescriptor m_X12_copy.1.desc).map (fun d => d.parameters.length) = some 0 := by decide +kernel
theorem lk_L_280 : zLV RL 280 m_X12_copy 0 := ⟨rfl, gw_in 479 (by decide +kernel) rfl, wms_X12_copy, wmt_X12_copy, wi_X12, wm_X12_copy, wmd_X12_copy, by decide⟩
theorem wms_X12_isOver : Cond.instanceMethod m_X12_isOver.1 ∈ GW := gw_in 493 (by decide +kernel) rfl
theorem wmt_X12_isOver : Cond.selects m_X12_isOver.1.cls m_X12_isOver.1 m_X12_isOver.1 ∈ GW := gw_in 494 (by decide +kernel) rfl
theorem wmd_X12_isOver : m_X12_isOver.1.cls ≠ "java/lang/invoke/MethodHandle" ∧ m_X12_isOver.1.cls ≠ "java/lang/invoke/VarHandle" ∧ (parseMethodDescriptor m_X12_isOver.1.desc).map (fun d => d.parameters.length) = some 0 := by decide +kernel
theorem lk_L_284 : zLV RL 284 m_X12_isOver 0 := ⟨rfl, gw_in 492 (by decide +kernel) rfl, wms_X12_isOver, wmt_X12_isOver, wi_X12, wm_X12_isOver, wmd_X12_isOver, by decide⟩
theorem wms_J0_charAt_5068e : Cond.instanceMethod m_J0_charAt_5068e.1 ∈ GW := gw_in 694 (by decide +kernel) rfl
theorem wmt_J0_charAt_5068e : Cond.selects m_J0_charAt_5068e.1.cls m_J0_charAt_5068e.1 m_J0_charAt_5068e.1 ∈ GW := gw_in 695 (by decide +kernel) rfl
theorem wmd_J0_charAt_5068e : m_J0_charAt_5068e.1.cls ≠ "java/lang/invoke/MethodHandle" ∧ m_J0_charAt_5068e.1.cls ≠ "java/lang/invoke/VarHandle" ∧ (parseMethodDescriptor m_J0_charAt_5068e.1.desc).map (fun d => d.parameters.length) = some 1 := by decide +kernel
theorem lk_L_29 : zLV RL 29 m_J0_charAt_5068e 1 := ⟨rfl, gw_in 1200 (by decide +kernel) rfl, wms_J0_charAt_5068e, wmt_J0_charAt_5068e, wi_J0, wm_J0_charAt_5068e, wmd_J0_charAt_5068e, by decide⟩
theorem wms_L_without : Cond.static m_L_without.1 ∈ GW := gw_in 534 (by decide +kernel) rfl
theorem wmd_L_without : m_L_without.1.cls ≠ "java/lang/invoke/MethodHandle" ∧ m_L_without.1.cls ≠ "java/lang/invoke/VarHandle" ∧ (parseMethodDescriptor m_L_without.1.desc).map (fun d => d.parameters.length) = some 2 := by decide +kernel
theorem lk_L_291 : zLS RL 291 m_L_without 2 := ⟨rfl, gw_in 1188 (by decide +kernel) rfl, wms_L_without, wi_L, wm_L_without, wmd_L_without, by decide⟩
theorem wms_L_discard : Cond.static m_L_discard.1 ∈ GW := gw_in 1173 (by decide +kernel) rfl
theorem wmd_L_discard : m_L_discard.1.cls ≠ "java/lang/invoke/MethodHandle" ∧ m_L_discard.1.cls ≠ "java/lang/invoke/VarHandle" ∧ (parseMethodDescriptor m_L_discard.1.desc).map (fun d => d.parameters.length) = some 3 := by decide +kernel
theorem lk_L_295 : zLSW RL 295 m_L_discard 3 := ⟨by decide, gw_in 1172 (by decide +kernel) rfl, wms_L_discard, wi_L, wm_L_discard, wmd_L_discard, by decide⟩
theorem wms_X12_pass : Cond.instanceMethod m_X12_pass.1 ∈ GW := gw_in 564 (by decide +kernel) rfl
theorem wmt_X12_pass : Cond.selects m_X12_pass.1.cls m_X12_pass.1 m_X12_pass.1 ∈ GW := gw_in 565 (by decide +kernel) rfl
theorem wmd_X12_pass : m_X12_pass.1.cls ≠ "java/lang/invoke/MethodHandle" ∧ m_X12_pass.1.cls ≠ "java/lang/invoke/VarHandle" ∧ (parseMethodDescriptor m_X12_pass.1.desc).map (fun d => d.parameters.length) = some 0 := by decide +kernel
theorem lk_L_297 : zLV RL 297 m_X12_pass 0 := ⟨rfl, gw_in 563 (by decide +kernel) rfl, wms_X12_pass, wmt_X12_pass, wi_X12, wm_X12_pass, wmd_X12_pass, by decide⟩
theorem wms_X12_cancel : Cond.instanceMethod m_X12_cancel.1 ∈ GW := gw_in 560 (by decide +kernel) rfl
theorem wmt_X12_cancel : Cond.selects m_X12_cancel.1.cls m_X12_cancel.1 m_X12_cancel.1 ∈ GW := gw_in 561 (by decide +kernel) rfl
theorem wmd_X12_cancel : m_X12_cancel.1.cls ≠ "java/lang/invoke/MethodHandle" ∧ m_X12_cancel.1.cls ≠ "java/lang/invoke/VarHandle" ∧ (parseMethodDescriptor m_X12_cancel.1.desc).map (fun d => d.parameters.length) = some 2 := by decide +kernel
theorem lk_L_298 : zLV RL 298 m_X12_cancel 2 := ⟨rfl, gw_in 559 (by decide +kernel) rfl, wms_X12_cancel, wmt_X12_cancel, wi_X12, wm_X12_cancel, wmd_X12_cancel, by decide⟩
theorem wms_L_cancel : Cond.static m_L_cancel.1 ∈ GW := gw_in 1141 (by decide +kernel) rfl
theorem wmd_L_cancel : m_L_cancel.1.cls ≠ "java/lang/invoke/MethodHandle" ∧ m_L_cancel.1.cls ≠ "java/lang/invoke/VarHandle" ∧ (parseMethodDescriptor m_L_cancel.1.desc).map (fun d => d.parameters.length) = some 3 := by decide +kernel
theorem lk_L_299 : zLSW RL 299 m_L_cancel 3 := ⟨by decide, gw_in 1140 (by decide +kernel) rfl, wms_L_cancel, wi_L, wm_L_cancel, wmd_L_cancel, by decide⟩
theorem wms_X12_play : Cond.instanceMethod m_X12_play.1 ∈ GW := gw_in 497 (by decide +kernel) rfl
theorem wmt_X12_play : Cond.selects m_X12_play.1.cls m_X12_play.1 m_X12_play.1 ∈ GW := gw_in 498 (by decide +kernel) rfl
theorem wmd_X12_play : m_X12_play.1.cls ≠ "java/lang/invoke/MethodHandle" ∧ m_X12_play.1.cls ≠ "java/lang/invoke/VarHandle" ∧ (parseMethodDescriptor m_X12_play.1.desc).map (fun d => d.parameters.length) = some 1 := by decide +kernel
theorem lk_L_301 : zLV RL 301 m_X12_play 1 := ⟨rfl, gw_in 496 (by decide +kernel) rfl, wms_X12_play, wmt_X12_play, wi_X12, wm_X12_play, wmd_X12_play, by decide⟩
theorem wms_L_productOf : Cond.static m_L_productOf.1 ∈ GW := gw_in 966 (by decide +kernel) rfl
theorem wmd_L_productOf : m_L_productOf.1.cls ≠ "java/lang/invoke/MethodHandle" ∧ m_L_productOf.1.cls ≠ "java/lang/invoke/VarHandle" ∧ (parseMethodDescriptor m_L_productOf.1.desc).map (fun d => d.parameters.length) = some 3 := by decide +kernel
theorem lk_L_302 : zLSW RL 302 m_L_productOf 3 := ⟨by decide, gw_in 965 (by decide +kernel) rfl, wms_L_productOf, wi_L, wm_L_productOf, wmd_L_productOf, by decide⟩
theorem wms_L_reach : Cond.static m_L_reach.1 ∈ GW := gw_in 992 (by decide +kernel) rfl
theorem wmd_L_reach : m_L_reach.1.cls ≠ "java/lang/invoke/MethodHandle" ∧ m_L_reach.1.cls ≠ "java/lang/invoke/VarHandle" ∧ (parseMethodDescriptor m_L_reach.1.desc).map (fun d => d.parameters.length) = some 2 := by decide +kernel
theorem lk_L_304 : zLSW RL 304 m_L_reach 2 := ⟨by decide, gw_in 991 (by decide +kernel) rfl, wms_L_reach, wi_L, wm_L_reach, wmd_L_reach, by decide⟩
theorem wms_L_fewest : Cond.static m_L_fewest.1 ∈ GW := gw_in 1052 (by decide +kernel) rfl
theorem wmd_L_fewest : m_L_fewest.1.cls ≠ "java/lang/invoke/MethodHandle" ∧ m_L_fewest.1.cls ≠ "java/lang/invoke/VarHandle" ∧ (parseMethodDescriptor m_L_fewest.1.desc).map (fun d => d.parameters.length) = some 2 := by decide +kernel
theorem lk_L_306 : zLSW RL 306 m_L_fewest 2 := ⟨by decide, gw_in 1051 (by decide +kernel) rfl, wms_L_fewest, wi_L, wm_L_fewest, wmd_L_fewest, by decide⟩
theorem wms_L_put : Cond.static m_L_put.1 ∈ GW := gw_in 1202 (by decide +kernel) rfl
theorem wmd_L_put : m_L_put.1.cls ≠ "java/lang/invoke/MethodHandle" ∧ m_L_put.1.cls ≠ "java/lang/invoke/VarHandle" ∧ (parseMethodDescriptor m_L_put.1.desc).map (fun d => d.parameters.length) = some 3 := by decide +kernel
theorem lk_L_33 : zLS RL 33 m_L_put 3 := ⟨rfl, gw_in 1201 (by decide +kernel) rfl, wms_L_put, wi_L, wm_L_put, wmd_L_put, by decide⟩
theorem wms_X8_load : Cond.instanceMethod m_X8_load.1 ∈ GW := gw_in 572 (by decide +kernel) rfl
theorem wmt_X8_load : Cond.selects m_X8_load.1.cls m_X8_load.1 m_X8_load.1 ∈ GW := gw_in 573 (by decide +kernel) rfl
theorem wmd_X8_load : m_X8_load.1.cls ≠ "java/lang/invoke/MethodHandle" ∧ m_X8_load.1.cls ≠ "java/lang/invoke/VarHandle" ∧ (parseMethodDescriptor m_X8_load.1.desc).map (fun d => d.parameters.length) = some 1 := by decide +kernel
theorem lk_L_37 : zLV RL 37 m_X8_load 1 := ⟨rfl, gw_in 571 (by decide +kernel) rfl, wms_X8_load, wmt_X8_load, wi_X8, wm_X8_load, wmd_X8_load, by decide⟩
theorem wms_X8_state : Cond.instanceMethod m_X8_state.1 ∈ GW := gw_in 1503 (by decide +kernel) rfl
theorem wmt_X8_state : Cond.selects m_X8_state.1.cls m_X8_state.1 m_X8_state.1 ∈ GW := gw_in 1504 (by decide +kernel) rfl
theorem wmd_X8_state : m_X8_state.1.cls ≠ "java/lang/invoke/MethodHandle" ∧ m_X8_state.1.cls ≠ "java/lang/invoke/VarHandle" ∧ (parseMethodDescriptor m_X8_state.1.desc).map (fun d => d.parameters.length) = some 1 := by decide +kernel
theorem lk_L_43 : zLV RL 43 m_X8_state 1 := ⟨rfl, gw_in 1539 (by decide +kernel) rfl, wms_X8_state, wmt_X8_state, wi_X8, wm_X8_state, wmd_X8_state, by decide⟩
theorem wms_X8_player : Cond.instanceMethod m_X8_player.1 ∈ GW := gw_in 1511 (by decide +kernel) rfl
theorem wmt_X8_player : Cond.selects m_X8_player.1.cls m_X8_player.1 m_X8_player.1 ∈ GW := gw_in 1512 (by decide +kernel) rfl
theorem wmd_X8_player : m_X8_player.1.cls ≠ "java/lang/invoke/MethodHandle" ∧ m_X8_player.1.cls ≠ "java/lang/invoke/VarHandle" ∧ (parseMethodDescriptor m_X8_player.1.desc).map (fun d => d.parameters.length) = some 2 := by decide +kernel
theorem lk_L_46 : zLV RL 46 m_X8_player 2 := ⟨rfl, gw_in 1544 (by decide +kernel) rfl, wms_X8_player, wmt_X8_player, wi_X8, wm_X8_player, wmd_X8_player, by decide⟩
theorem wms_X8_card : Cond.instanceMethod m_X8_card.1 ∈ GW := gw_in 872 (by decide +kernel) rfl
theorem wmt_X8_card : Cond.selects m_X8_card.1.cls m_X8_card.1 m_X8_card.1 ∈ GW := gw_in 873 (by decide +kernel) rfl
theorem wmd_X8_card : m_X8_card.1.cls ≠ "java/lang/invoke/MethodHandle" ∧ m_X8_card.1.cls ≠ "java/lang/invoke/VarHandle" ∧ (parseMethodDescriptor m_X8_card.1.desc).map (fun d => d.parameters.length) = some 3 := by decide +kernel
theorem lk_L_53 : zLV RL 53 m_X8_card 3 := ⟨rfl, gw_in 871 (by decide +kernel) rfl, wms_X8_card, wmt_X8_card, wi_X8, wm_X8_card, wmd_X8_card, by decide⟩
theorem wms_X8_bid : Cond.instanceMethod m_X8_bid.1 ∈ GW := gw_in 1516 (by decide +kernel) rfl
theorem wmt_X8_bid : Cond.selects m_X8_bid.1.cls m_X8_bid.1 m_X8_bid.1 ∈ GW := gw_in 1517 (by decide +kernel) rfl
theorem wmd_X8_bid : m_X8_bid.1.cls ≠ "java/lang/invoke/MethodHandle" ∧ m_X8_bid.1.cls ≠ "java/lang/invoke/VarHandle" ∧ (parseMethodDescriptor m_X8_bid.1.desc).map (fun d => d.parameters.length) = some 2 := by decide +kernel
theorem lk_L_60 : zLV RL 60 m_X8_bid 2 := ⟨rfl, gw_in 1549 (by decide +kernel) rfl, wms_X8_bid, wmt_X8_bid, wi_X8, wm_X8_bid, wmd_X8_bid, by decide⟩
theorem wms_X8_productOf : Cond.instanceMethod m_X8_productOf.1 ∈ GW := gw_in 969 (by decide +kernel) rfl
theorem wmt_X8_productOf : Cond.selects m_X8_productOf.1.cls m_X8_productOf.1 m_X8_productOf.1 ∈ GW := gw_in 970 (by decide +kernel) rfl
theorem wmd_X8_productOf : m_X8_productOf.1.cls ≠ "java/lang/invoke/MethodHandle" ∧ m_X8_productOf.1.cls ≠ "java/lang/invoke/VarHandle" ∧ (parseMethodDescriptor m_X8_productOf.1.desc).map (fun d => d.parameters.length) = some 2 := by decide +kernel
theorem lk_L_63 : zLV RL 63 m_X8_productOf 2 := ⟨rfl, gw_in 968 (by decide +kernel) rfl, wms_X8_productOf, wmt_X8_productOf, wi_X8, wm_X8_productOf, wmd_X8_productOf, by decide⟩
theorem wms_L_flush : Cond.static m_L_flush.1 ∈ GW := gw_in 1205 (by decide +kernel) rfl
theorem wmd_L_flush : m_L_flush.1.cls ≠ "java/lang/invoke/MethodHandle" ∧ m_L_flush.1.cls ≠ "java/lang/invoke/VarHandle" ∧ (parseMethodDescriptor m_L_flush.1.desc).map (fun d => d.parameters.length) = some 2 := by decide +kernel
theorem lk_L_7 : zLS RL 7 m_L_flush 2 := ⟨rfl, gw_in 1204 (by decide +kernel) rfl, wms_L_flush, wi_L, wm_L_flush, wmd_L_flush, by decide⟩
theorem wms_X8_order : Cond.instanceMethod m_X8_order.1 ∈ GW := gw_in 982 (by decide +kernel) rfl
theorem wmt_X8_order : Cond.selects m_X8_order.1.cls m_X8_order.1 m_X8_order.1 ∈ GW := gw_in 983 (by decide +kernel) rfl
theorem wmd_X8_order : m_X8_order.1.cls ≠ "java/lang/invoke/MethodHandle" ∧ m_X8_order.1.cls ≠ "java/lang/invoke/VarHandle" ∧ (parseMethodDescriptor m_X8_order.1.desc).map (fun d => d.parameters.length) = some 1 := by decide +kernel
theorem lk_L_72 : zLV RL 72 m_X8_order 1 := ⟨rfl, gw_in 981 (by decide +kernel) rfl, wms_X8_order, wmt_X8_order, wi_X8, wm_X8_order, wmd_X8_order, by decide⟩
theorem wms_X8_reach : Cond.instanceMethod m_X8_reach.1 ∈ GW := gw_in 995 (by decide +kernel) rfl
theorem wmt_X8_reach : Cond.selects m_X8_reach.1.cls m_X8_reach.1 m_X8_reach.1 ∈ GW := gw_in 996 (by decide +kernel) rfl
theorem wmd_X8_reach : m_X8_reach.1.cls ≠ "java/lang/invoke/MethodHandle" ∧ m_X8_reach.1.cls ≠ "java/lang/invoke/VarHandle" ∧ (parseMethodDescriptor m_X8_reach.1.desc).map (fun d => d.parameters.length) = some 1 := by decide +kernel
theorem lk_L_75 : zLV RL 75 m_X8_reach 1 := ⟨rfl, gw_in 994 (by decide +kernel) rfl, wms_X8_reach, wmt_X8_reach, wi_X8, wm_X8_reach, wmd_X8_reach, by decide⟩
theorem wms_X8_fewest : Cond.instanceMethod m_X8_fewest.1 ∈ GW := gw_in 1055 (by decide +kernel) rfl
theorem wmt_X8_fewest : Cond.selects m_X8_fewest.1.cls m_X8_fewest.1 m_X8_fewest.1 ∈ GW := gw_in 1056 (by decide +kernel) rfl
theorem wmd_X8_fewest : m_X8_fewest.1.cls ≠ "java/lang/invoke/MethodHandle" ∧ m_X8_fewest.1.cls ≠ "java/lang/invoke/VarHandle" ∧ (parseMethodDescriptor m_X8_fewest.1.desc).map (fun d => d.parameters.length) = some 1 := by decide +kernel
theorem lk_L_85 : zLV RL 85 m_X8_fewest 1 := ⟨rfl, gw_in 1054 (by decide +kernel) rfl, wms_X8_fewest, wmt_X8_fewest, wi_X8, wm_X8_fewest, wmd_X8_fewest, by decide⟩
theorem wms_X8_play : Cond.instanceMethod m_X8_play.1 ∈ GW := gw_in 1077 (by decide +kernel) rfl
theorem wmt_X8_play : Cond.selects m_X8_play.1.cls m_X8_play.1 m_X8_play.1 ∈ GW := gw_in 1078 (by decide +kernel) rfl
theorem wmd_X8_play : m_X8_play.1.cls ≠ "java/lang/invoke/MethodHandle" ∧ m_X8_play.1.cls ≠ "java/lang/invoke/VarHandle" ∧ (parseMethodDescriptor m_X8_play.1.desc).map (fun d => d.parameters.length) = some 1 := by decide +kernel
theorem lk_L_94 : zLV RL 94 m_X8_play 1 := ⟨rfl, gw_in 1076 (by decide +kernel) rfl, wms_X8_play, wmt_X8_play, wi_X8, wm_X8_play, wmd_X8_play, by decide⟩
theorem wms_X6_size : Cond.instanceMethod m_X6_size.1 ∈ GW := gw_in 945 (by decide +kernel) rfl
theorem wmt_X6_size : Cond.selects m_X6_size.1.cls m_X6_size.1 m_X6_size.1 ∈ GW := gw_in 946 (by decide +kernel) rfl
theorem wmd_X6_size : m_X6_size.1.cls ≠ "java/lang/invoke/MethodHandle" ∧ m_X6_size.1.cls ≠ "java/lang/invoke/VarHandle" ∧ (parseMethodDescriptor m_X6_size.1.desc).map (fun d => d.parameters.length) = some 0 := by decide +kernel
theorem lk_X0_104 : zLV RX0 104 m_X6_size 0 := ⟨rfl, gw_in 944 (by decide +kernel) rfl, wms_X6_size, wmt_X6_size, wi_X6, wm_X6_size, wmd_X6_size, by decide⟩
theorem wms_X0_productOfBids : Cond.instanceMethod m_X0_productOfBids.1 ∈ GW := gw_in 974 (by decide +kernel) rfl
theorem wmt_X0_productOfBids : Cond.selects m_X0_productOfBids.1.cls m_X0_productOfBids.1 m_X0_productOfBids.1 ∈ GW := gw_in 975 (by decide +kernel) rfl
theorem wmd_X0_productOfBids : m_X0_productOfBids.1.cls ≠ "java/lang/invoke/MethodHandle" ∧ m_X0_productOfBids.1.cls ≠ "java/lang/invoke/VarHandle" ∧ (parseMethodDescriptor m_X0_productOfBids.1.desc).map (fun d => d.parameters.length) = some 2 := by decide +kernel
theorem lk_X0_108 : zLV RX0 108 m_X0_productOfBids 2 := ⟨rfl, gw_in 1062 (by decide +kernel) rfl, wms_X0_productOfBids, wmt_X0_productOfBids, wi_X0, wm_X0_productOfBids, wmd_X0_productOfBids, by decide⟩
theorem wms_X2_opposite : Cond.instanceMethod m_X2_opposite.1 ∈ GW := gw_in 1064 (by decide +kernel) rfl
theorem wmt_X2_opposite : Cond.selects m_X2_opposite.1.cls m_X2_opposite.1 m_X2_opposite.1 ∈ GW := gw_in 1065 (by decide +kernel) rfl
theorem wmd_X2_opposite : m_X2_opposite.1.cls ≠ "java/lang/invoke/MethodHandle" ∧ m_X2_opposite.1.cls ≠ "java/lang/invoke/VarHandle" ∧ (parseMethodDescriptor m_X2_opposite.1.desc).map (fun d => d.parameters.length) = some 1 := by decide +kernel
theorem lk_X0_111 : zLV RX0 111 m_X2_opposite 1 := ⟨rfl, gw_in 1063 (by decide +kernel) rfl, wms_X2_opposite, wmt_X2_opposite, wi_X2, wm_X2_opposite, wmd_X2_opposite, by decide⟩
theorem wms_X2_period : Cond.instanceMethod m_X2_period.1 ∈ GW := gw_in 937 (by decide +kernel) rfl
theorem wmt_X2_period : Cond.selects m_X2_period.1.cls m_X2_period.1 m_X2_period.1 ∈ GW := gw_in 938 (by decide +kernel) rfl
theorem wmd_X2_period : m_X2_period.1.cls ≠ "java/lang/invoke/MethodHandle" ∧ m_X2_period.1.cls ≠ "java/lang/invoke/VarHandle" ∧ (parseMethodDescriptor m_X2_period.1.desc).map (fun d => d.parameters.length) = some 1 := by decide +kernel
theorem lk_X0_117 : zLV RX0 117 m_X2_period 1 := ⟨rfl, gw_in 936 (by decide +kernel) rfl, wms_X2_period, wmt_X2_period, wi_X2, wm_X2_period, wmd_X2_period, by decide⟩
theorem wms_X5_price : Cond.instanceMethod m_X5_price.1 ∈ GW := gw_in 949 (by decide +kernel) rfl
theorem wmt_X5_price : Cond.selects m_X5_price.1.cls m_X5_price.1 m_X5_price.1 ∈ GW := gw_in 950 (by decide +kernel) rfl
theorem wmd_X5_price : m_X5_price.1.cls ≠ "java/lang/invoke/MethodHandle" ∧ m_X5_price.1.cls ≠ "java/lang/invoke/VarHandle" ∧ (parseMethodDescriptor m_X5_price.1.desc).map (fun d => d.parameters.length) = some 4 := by decide +kernel
theorem lk_X0_123 : zLV RX0 123 m_X5_price 4 := ⟨rfl, gw_in 948 (by decide +kernel) rfl, wms_X5_price, wmt_X5_price, wi_X5, wm_X5_price, wmd_X5_price, by decide⟩
theorem wms_X0_bidder : Cond.instanceMethod m_X0_bidder.1 ∈ GW := gw_in 772 (by decide +kernel) rfl
theorem wmt_X0_bidder : Cond.selects m_X0_bidder.1.cls m_X0_bidder.1 m_X0_bidder.1 ∈ GW := gw_in 773 (by decide +kernel) rfl
theorem wmd_X0_bidder : m_X0_bidder.1.cls ≠ "java/lang/invoke/MethodHandle" ∧ m_X0_bidder.1.cls ≠ "java/lang/invoke/VarHandle" ∧ (parseMethodDescriptor m_X0_bidder.1.desc).map (fun d => d.parameters.length) = some 1 := by decide +kernel
theorem lk_X0_127 : zLV RX0 127 m_X0_bidder 1 := ⟨rfl, gw_in 1108 (by decide +kernel) rfl, wms_X0_bidder, wmt_X0_bidder, wi_X0, wm_X0_bidder, wmd_X0_bidder, by decide⟩
theorem wms_X0_priceOf : Cond.instanceMethod m_X0_priceOf.1 ∈ GW := gw_in 932 (by decide +kernel) rfl
theorem wmt_X0_priceOf : Cond.selects m_X0_priceOf.1.cls m_X0_priceOf.1 m_X0_priceOf.1 ∈ GW := gw_in 933 (by decide +kernel) rfl
theorem wmd_X0_priceOf : m_X0_priceOf.1.cls ≠ "java/lang/invoke/MethodHandle" ∧ m_X0_priceOf.1.cls ≠ "java/lang/invoke/VarHandle" ∧ (parseMethodDescriptor m_X0_priceOf.1.desc).map (fun d => d.parameters.length) = some 2 := by decide +kernel
theorem lk_X0_131 : zLV RX0 131 m_X0_priceOf 2 := ⟨rfl, gw_in 1109 (by decide +kernel) rfl, wms_X0_priceOf, wmt_X0_priceOf, wi_X0, wm_X0_priceOf, wmd_X0_priceOf, by decide⟩
theorem wms_X6_isFull : Cond.instanceMethod m_X6_isFull.1 ∈ GW := gw_in 776 (by decide +kernel) rfl
theorem wmt_X6_isFull : Cond.selects m_X6_isFull.1.cls m_X6_isFull.1 m_X6_isFull.1 ∈ GW := gw_in 777 (by decide +kernel) rfl
theorem wmd_X6_isFull : m_X6_isFull.1.cls ≠ "java/lang/invoke/MethodHandle" ∧ m_X6_isFull.1.cls ≠ "java/lang/invoke/VarHandle" ∧ (parseMethodDescriptor m_X6_isFull.1.desc).map (fun d => d.parameters.length) = some 0 := by decide +kernel
theorem lk_X0_135 : zLV RX0 135 m_X6_isFull 0 := ⟨rfl, gw_in 1110 (by decide +kernel) rfl, wms_X6_isFull, wmt_X6_isFull, wi_X6, wm_X6_isFull, wmd_X6_isFull, by decide⟩
theorem wms_X6_push : Cond.instanceMethod m_X6_push.1 ∈ GW := gw_in 800 (by decide +kernel) rfl
theorem wmt_X6_push : Cond.selects m_X6_push.1.cls m_X6_push.1 m_X6_push.1 ∈ GW := gw_in 801 (by decide +kernel) rfl
theorem wmd_X6_push : m_X6_push.1.cls ≠ "java/lang/invoke/MethodHandle" ∧ m_X6_push.1.cls ≠ "java/lang/invoke/VarHandle" ∧ (parseMethodDescriptor m_X6_push.1.desc).map (fun d => d.parameters.length) = some 1 := by decide +kernel
theorem lk_X0_142 : zLV RX0 142 m_X6_push 1 := ⟨rfl, gw_in 1111 (by decide +kernel) rfl, wms_X6_push, wmt_X6_push, wi_X6, wm_X6_push, wmd_X6_push, by decide⟩
theorem wms_X1_dropCard : Cond.instanceMethod m_X1_dropCard.1 ∈ GW := gw_in 1113 (by decide +kernel) rfl
theorem wmt_X1_dropCard : Cond.selects m_X1_dropCard.1.cls m_X1_dropCard.1 m_X1_dropCard.1 ∈ GW := gw_in 1114 (by decide +kernel) rfl
theorem wmd_X1_dropCard : m_X1_dropCard.1.cls ≠ "java/lang/invoke/MethodHandle" ∧ m_X1_dropCard.1.cls ≠ "java/lang/invoke/VarHandle" ∧ (parseMethodDescriptor m_X1_dropCard.1.desc).map (fun d => d.parameters.length) = some 1 := by decide +kernel
theorem lk_X0_145 : zLV RX0 145 m_X1_dropCard 1 := ⟨rfl, gw_in 1112 (by decide +kernel) rfl, wms_X1_dropCard, wmt_X1_dropCard, wi_X1, wm_X1_dropCard, wmd_X1_dropCard, by decide⟩
theorem wms_X0_endMove : Cond.instanceMethod m_X0_endMove.1 ∈ GW := gw_in 1122 (by decide +kernel) rfl
theorem wmt_X0_endMove : Cond.selects m_X0_endMove.1.cls m_X0_endMove.1 m_X0_endMove.1 ∈ GW := gw_in 33 (by decide +kernel) rfl
theorem wmd_X0_endMove : m_X0_endMove.1.cls ≠ "java/lang/invoke/MethodHandle" ∧ m_X0_endMove.1.cls ≠ "java/lang/invoke/VarHandle" ∧ (parseMethodDescriptor m_X0_endMove.1.desc).map (fun d => d.parameters.length) = some 1 := by decide +kernel
theorem lk_X0_148 : zLV RX0 148 m_X0_endMove 1 := ⟨rfl, gw_in 1120 (by decide +kernel) rfl, wms_X0_endMove, wmt_X0_endMove, wi_X0, wm_X0_endMove, wmd_X0_endMove, by decide⟩
theorem wms_X1_receive : Cond.instanceMethod m_X1_receive.1 ∈ GW := gw_in 1125 (by decide +kernel) rfl
theorem wmt_X1_receive : Cond.selects m_X1_receive.1.cls m_X1_receive.1 m_X1_receive.1 ∈ GW := gw_in 1126 (by decide +kernel) rfl
theorem wmd_X1_receive : m_X1_receive.1.cls ≠ "java/lang/invoke/MethodHandle" ∧ m_X1_receive.1.cls ≠ "java/lang/invoke/VarHandle" ∧ (parseMethodDescriptor m_X1_receive.1.desc).map (fun d => d.parameters.length) = some 1 := by decide +kernel
theorem lk_X0_152 : zLV RX0 152 m_X1_receive 1 := ⟨rfl, gw_in 1124 (by decide +kernel) rfl, wms_X1_receive, wmt_X1_receive, wi_X1, wm_X1_receive, wmd_X1_receive, by decide⟩
theorem wms_X6_remove : Cond.instanceMethod m_X6_remove.1 ∈ GW := gw_in 1117 (by decide +kernel) rfl
theorem wmt_X6_remove : Cond.selects m_X6_remove.1.cls m_X6_remove.1 m_X6_remove.1 ∈ GW := gw_in 1118 (by decide +kernel) rfl
theorem wmd_X6_remove : m_X6_remove.1.cls ≠ "java/lang/invoke/MethodHandle" ∧ m_X6_remove.1.cls ≠ "java/lang/invoke/VarHandle" ∧ (parseMethodDescriptor m_X6_remove.1.desc).map (fun d => d.parameters.length) = some 1 := by decide +kernel
theorem lk_X0_155 : zLV RX0 155 m_X6_remove 1 := ⟨rfl, gw_in 1151 (by decide +kernel) rfl, wms_X6_remove, wmt_X6_remove, wi_X6, wm_X6_remove, wmd_X6_remove, by decide⟩
theorem wms_X0_openNextLot : Cond.instanceMethod m_X0_openNextLot.1 ∈ GW := gw_in 1133 (by decide +kernel) rfl
theorem wmt_X0_openNextLot : Cond.selects m_X0_openNextLot.1.cls m_X0_openNextLot.1 m_X0_openNextLot.1 ∈ GW := gw_in 34 (by decide +kernel) rfl
theorem wmd_X0_openNextLot : m_X0_openNextLot.1.cls ≠ "java/lang/invoke/MethodHandle" ∧ m_X0_openNextLot.1.cls ≠ "java/lang/invoke/VarHandle" ∧ (parseMethodDescriptor m_X0_openNextLot.1.desc).map (fun d => d.parameters.length) = some 0 := by decide +kernel
theorem lk_X0_158 : zLV RX0 158 m_X0_openNextLot 0 := ⟨rfl, gw_in 1131 (by decide +kernel) rfl, wms_X0_openNextLot, wmt_X0_openNextLot, wi_X0, wm_X0_openNextLot, wmd_X0_openNextLot, by decide⟩
theorem wms_X0_turnToNext : Cond.instanceMethod m_X0_turnToNext.1 ∈ GW := gw_in 1137 (by decide +kernel) rfl
theorem wmt_X0_turnToNext : Cond.selects m_X0_turnToNext.1.cls m_X0_turnToNext.1 m_X0_turnToNext.1 ∈ GW := gw_in 35 (by decide +kernel) rfl
theorem wmd_X0_turnToNext : m_X0_turnToNext.1.cls ≠ "java/lang/invoke/MethodHandle" ∧ m_X0_turnToNext.1.cls ≠ "java/lang/invoke/VarHandle" ∧ (parseMethodDescriptor m_X0_turnToNext.1.desc).map (fun d => d.parameters.length) = some 0 := by decide +kernel
theorem lk_X0_161 : zLV RX0 161 m_X0_turnToNext 0 := ⟨rfl, gw_in 1135 (by decide +kernel) rfl, wms_X0_turnToNext, wmt_X0_turnToNext, wi_X0, wm_X0_turnToNext, wmd_X0_turnToNext, by decide⟩
theorem wms_X1_init : Cond.instanceMethod m_X1_init.1 ∈ GW := gw_in 131 (by decide +kernel) rfl
theorem wmd_X1_init : m_X1_init.1.cls ≠ "java/lang/invoke/MethodHandle" ∧ m_X1_init.1.cls ≠ "java/lang/invoke/VarHandle" ∧ (parseMethodDescriptor m_X1_init.1.desc).map (fun d => d.parameters.length) = some 0 := by decide +kernel
theorem lk_X0_21 : zLI RX0 21 m_X1_init 0 := ⟨rfl, gw_in 130 (by decide +kernel) rfl, wms_X1_init, wi_X1, wm_X1_init, rfl, rfl, wmd_X1_init, by decide⟩
theorem wms_X6_init : Cond.instanceMethod m_X6_init.1 ∈ GW := gw_in 108 (by decide +kernel) rfl
theorem wmd_X6_init : m_X6_init.1.cls ≠ "java/lang/invoke/MethodHandle" ∧ m_X6_init.1.cls ≠ "java/lang/invoke/VarHandle" ∧ (parseMethodDescriptor m_X6_init.1.desc).map (fun d => d.parameters.length) = some 1 := by decide +kernel
theorem lk_X0_24 : zLI RX0 24 m_X6_init 1 := ⟨rfl, gw_in 160 (by decide +kernel) rfl, wms_X6_init, wi_X6, wm_X6_init, rfl, rfl, wmd_X6_init, by decide⟩
theorem wms_X5_init : Cond.instanceMethod m_X5_init.1 ∈ GW := gw_in 164 (by decide +kernel) rfl
theorem wmd_X5_init : m_X5_init.1.cls ≠ "java/lang/invoke/MethodHandle" ∧ m_X5_init.1.cls ≠ "java/lang/invoke/VarHandle" ∧ (parseMethodDescriptor m_X5_init.1.desc).map (fun d => d.parameters.length) = some 1 := by decide +kernel
theorem lk_X0_42 : zLI RX0 42 m_X5_init 1 := ⟨rfl, gw_in 163 (by decide +kernel) rfl, wms_X5_init, wi_X5, wm_X5_init, rfl, rfl, wmd_X5_init, by decide⟩
theorem wms_X6_clear : Cond.instanceMethod m_X6_clear.1 ∈ GW := gw_in 653 (by decide +kernel) rfl
theorem wmt_X6_clear : Cond.selects m_X6_clear.1.cls m_X6_clear.1 m_X6_clear.1 ∈ GW := gw_in 654 (by decide +kernel) rfl
theorem wmd_X6_clear : m_X6_clear.1.cls ≠ "java/lang/invoke/MethodHandle" ∧ m_X6_clear.1.cls ≠ "java/lang/invoke/VarHandle" ∧ (parseMethodDescriptor m_X6_clear.1.desc).map (fun d => d.parameters.length) = some 0 := by decide +kernel
theorem lk_X0_59 : zLV RX0 59 m_X6_clear 0 := ⟨rfl, gw_in 652 (by decide +kernel) rfl, wms_X6_clear, wmt_X6_clear, wi_X6, wm_X6_clear, wmd_X6_clear, by decide⟩
theorem wms_X0_clearLot : Cond.instanceMethod m_X0_clearLot.1 ∈ GW := gw_in 658 (by decide +kernel) rfl
theorem wmt_X0_clearLot : Cond.selects m_X0_clearLot.1.cls m_X0_clearLot.1 m_X0_clearLot.1 ∈ GW := gw_in 2 (by decide +kernel) rfl
theorem wmd_X0_clearLot : m_X0_clearLot.1.cls ≠ "java/lang/invoke/MethodHandle" ∧ m_X0_clearLot.1.cls ≠ "java/lang/invoke/VarHandle" ∧ (parseMethodDescriptor m_X0_clearLot.1.desc).map (fun d => d.parameters.length) = some 0 := by decide +kernel
theorem lk_X0_71 : zLV RX0 71 m_X0_clearLot 0 := ⟨rfl, gw_in 656 (by decide +kernel) rfl, wms_X0_clearLot, wmt_X0_clearLot, wi_X0, wm_X0_clearLot, wmd_X0_clearLot, by decide⟩
theorem wms_X1_copyFrom : Cond.instanceMethod m_X1_copyFrom.1 ∈ GW := gw_in 373 (by decide +kernel) rfl
theorem wmt_X1_copyFrom : Cond.selects m_X1_copyFrom.1.cls m_X1_copyFrom.1 m_X1_copyFrom.1 ∈ GW := gw_in 374 (by decide +kernel) rfl
theorem wmd_X1_copyFrom : m_X1_copyFrom.1.cls ≠ "java/lang/invoke/MethodHandle" ∧ m_X1_copyFrom.1.cls ≠ "java/lang/invoke/VarHandle" ∧ (parseMethodDescriptor m_X1_copyFrom.1.desc).map (fun d => d.parameters.length) = some 1 := by decide +kernel
theorem lk_X0_74 : zLV RX0 74 m_X1_copyFrom 1 := ⟨rfl, gw_in 372 (by decide +kernel) rfl, wms_X1_copyFrom, wmt_X1_copyFrom, wi_X1, wm_X1_copyFrom, wmd_X1_copyFrom, by decide⟩
theorem wms_X6_copyFrom : Cond.instanceMethod m_X6_copyFrom.1 ∈ GW := gw_in 377 (by decide +kernel) rfl
theorem wmt_X6_copyFrom : Cond.selects m_X6_copyFrom.1.cls m_X6_copyFrom.1 m_X6_copyFrom.1 ∈ GW := gw_in 378 (by decide +kernel) rfl
theorem wmd_X6_copyFrom : m_X6_copyFrom.1.cls ≠ "java/lang/invoke/MethodHandle" ∧ m_X6_copyFrom.1.cls ≠ "java/lang/invoke/VarHandle" ∧ (parseMethodDescriptor m_X6_copyFrom.1.desc).map (fun d => d.parameters.length) = some 1 := by decide +kernel
theorem lk_X0_78 : zLV RX0 78 m_X6_copyFrom 1 := ⟨rfl, gw_in 386 (by decide +kernel) rfl, wms_X6_copyFrom, wmt_X6_copyFrom, wi_X6, wm_X6_copyFrom, wmd_X6_copyFrom, by decide⟩
theorem wms_X1_start : Cond.instanceMethod m_X1_start.1 ∈ GW := gw_in 762 (by decide +kernel) rfl
theorem wmt_X1_start : Cond.selects m_X1_start.1.cls m_X1_start.1 m_X1_start.1 ∈ GW := gw_in 763 (by decide +kernel) rfl
theorem wmd_X1_start : m_X1_start.1.cls ≠ "java/lang/invoke/MethodHandle" ∧ m_X1_start.1.cls ≠ "java/lang/invoke/VarHandle" ∧ (parseMethodDescriptor m_X1_start.1.desc).map (fun d => d.parameters.length) = some 1 := by decide +kernel
theorem lk_X0_87 : zLV RX0 87 m_X1_start 1 := ⟨rfl, gw_in 761 (by decide +kernel) rfl, wms_X1_start, wmt_X1_start, wi_X1, wm_X1_start, wmd_X1_start, by decide⟩
theorem wms_X6_holds : Cond.instanceMethod m_X6_holds.1 ∈ GW := gw_in 896 (by decide +kernel) rfl
theorem wmt_X6_holds : Cond.selects m_X6_holds.1.cls m_X6_holds.1 m_X6_holds.1 ∈ GW := gw_in 897 (by decide +kernel) rfl
theorem wmd_X6_holds : m_X6_holds.1.cls ≠ "java/lang/invoke/MethodHandle" ∧ m_X6_holds.1.cls ≠ "java/lang/invoke/VarHandle" ∧ (parseMethodDescriptor m_X6_holds.1.desc).map (fun d => d.parameters.length) = some 1 := by decide +kernel
theorem lk_X0_90 : zLV RX0 90 m_X6_holds 1 := ⟨rfl, gw_in 1088 (by decide +kernel) rfl, wms_X6_holds, wmt_X6_holds, wi_X6, wm_X6_holds, wmd_X6_holds, by decide⟩
theorem wms_X6_at : Cond.instanceMethod m_X6_at.1 ∈ GW := gw_in 915 (by decide +kernel) rfl
theorem wmt_X6_at : Cond.selects m_X6_at.1.cls m_X6_at.1 m_X6_at.1 ∈ GW := gw_in 916 (by decide +kernel) rfl
theorem wmd_X6_at : m_X6_at.1.cls ≠ "java/lang/invoke/MethodHandle" ∧ m_X6_at.1.cls ≠ "java/lang/invoke/VarHandle" ∧ (parseMethodDescriptor m_X6_at.1.desc).map (fun d => d.parameters.length) = some 1 := by decide +kernel
theorem lk_X0_94 : zLV RX0 94 m_X6_at 1 := ⟨rfl, gw_in 935 (by decide +kernel) rfl, wms_X6_at, wmt_X6_at, wi_X6, wm_X6_at, wmd_X6_at, by decide⟩
theorem wms_X2_times : Cond.instanceMethod m_X2_times.1 ∈ GW := gw_in 941 (by decide +kernel) rfl
theorem wmt_X2_times : Cond.selects m_X2_times.1.cls m_X2_times.1 m_X2_times.1 ∈ GW := gw_in 942 (by decide +kernel) rfl
theorem wmd_X2_times : m_X2_times.1.cls ≠ "java/lang/invoke/MethodHandle" ∧ m_X2_times.1.cls ≠ "java/lang/invoke/VarHandle" ∧ (parseMethodDescriptor m_X2_times.1.desc).map (fun d => d.parameters.length) = some 2 := by decide +kernel
theorem lk_X0_98 : zLV RX0 98 m_X2_times 2 := ⟨rfl, gw_in 977 (by decide +kernel) rfl, wms_X2_times, wmt_X2_times, wi_X2, wm_X2_times, wmd_X2_times, by decide⟩
theorem lk_X10_10 : zLV RX10 10 m_X11_below 1 := ⟨rfl, gw_in 1251 (by decide +kernel) rfl, wms_X11_below, wmt_X11_below, wi_X11, wm_X11_below, wmd_X11_below, by decide⟩
theorem lk_X10_23 : zLS RX10 23 m_X10_random 2 := ⟨rfl, gw_in 1252 (by decide +kernel) rfl, wms_X10_random, wi_X10, wm_X10_random, wmd_X10_random, by decide⟩
theorem wms_J4_init_da8c8 : Cond.instanceMethod m_J4_init_da8c8.1 ∈ GW := gw_in 1261 (by decide +kernel) rfl
theorem wmd_J4_init_da8c8 : m_J4_init_da8c8.1.cls ≠ "java/lang/invoke/MethodHandle" ∧ m_J4_init_da8c8.1.cls ≠ "java/lang/invoke/VarHandle" ∧ (parseMethodDescriptor m_J4_init_da8c8.1.desc).map (fun d => d.parameters.length) = some 0 := by decide +kernel
theorem lk_X10_36 : zLI RX10 36 m_J4_init_da8c8 0 := ⟨rfl, gw_in 1260 (by decide +kernel) rfl, wms_J4_init_da8c8, wi_J4, wm_J4_init_da8c8, rfl, rfl, wmd_J4_init_da8c8, by decide⟩
theorem wms_J4_append_15ec4 : Cond.instanceMethod m_J4_append_15ec4.1 ∈ GW := gw_in 1290 (by decide +kernel) rfl
theorem wmt_J4_append_15ec4 : Cond.selects m_J4_append_15ec4.1.cls m_J4_append_15ec4.1 m_J4_append_15ec4.1 ∈ GW := gw_in 1291 (by decide +kernel) rfl
theorem wmd_J4_append_15ec4 : m_J4_append_15ec4.1.cls ≠ "java/lang/invoke/MethodHandle" ∧ m_J4_append_15ec4.1.cls ≠ "java/lang/invoke/VarHandle" ∧ (parseMethodDescriptor m_J4_append_15ec4.1.desc).map (fun d => d.parameters.length) = some 1 := by decide +kernel
theorem lk_X10_39 : zLV RX10 39 m_J4_append_15ec4 1 := ⟨rfl, gw_in 1289 (by decide +kernel) rfl, wms_J4_append_15ec4, wmt_J4_append_15ec4, wi_J4, wm_J4_append_15ec4, wmd_J4_append_15ec4, by decide⟩
theorem wms_J4_append_bf812 : Cond.instanceMethod m_J4_append_bf812.1 ∈ GW := gw_in 1381 (by decide +kernel) rfl
theorem wmt_J4_append_bf812 : Cond.selects m_J4_append_bf812.1.cls m_J4_append_bf812.1 m_J4_append_bf812.1 ∈ GW := gw_in 1382 (by decide +kernel) rfl
theorem wmd_J4_append_bf812 : m_J4_append_bf812.1.cls ≠ "java/lang/invoke/MethodHandle" ∧ m_J4_append_bf812.1.cls ≠ "java/lang/invoke/VarHandle" ∧ (parseMethodDescriptor m_J4_append_bf812.1.desc).map (fun d => d.parameters.length) = some 1 := by decide +kernel
theorem lk_X10_43 : zLV RX10 43 m_J4_append_bf812 1 := ⟨rfl, gw_in 1380 (by decide +kernel) rfl, wms_J4_append_bf812, wmt_J4_append_bf812, wi_J4, wm_J4_append_bf812, wmd_J4_append_bf812, by decide⟩
theorem wms_J4_toString_0e30d : Cond.instanceMethod m_J4_toString_0e30d.1 ∈ GW := gw_in 1406 (by decide +kernel) rfl
theorem wmt_J4_toString_0e30d : Cond.selects m_J4_toString_0e30d.1.cls m_J4_toString_0e30d.1 m_J4_toString_0e30d.1 ∈ GW := gw_in 1407 (by decide +kernel) rfl
theorem wmd_J4_toString_0e30d : m_J4_toString_0e30d.1.cls ≠ "java/lang/invoke/MethodHandle" ∧ m_J4_toString_0e30d.1.cls ≠ "java/lang/invoke/VarHandle" ∧ (parseMethodDescriptor m_J4_toString_0e30d.1.desc).map (fun d => d.parameters.length) = some 0 := by decide +kernel
theorem lk_X10_46 : zLV RX10 46 m_J4_toString_0e30d 0 := ⟨rfl, gw_in 1405 (by decide +kernel) rfl, wms_J4_toString_0e30d, wmt_J4_toString_0e30d, wi_J4, wm_J4_toString_0e30d, wmd_J4_toString_0e30d, by decide⟩
theorem lk_X10_56 : zLV RX10 56 m_X10_text 1 := ⟨rfl, gw_in 1483 (by decide +kernel) rfl, wms_X10_text, wmt_X10_text, wi_X10, wm_X10_text, wmd_X10_text, by decide⟩
theorem wms_X10_value : Cond.instanceMethod m_X10_value.1 ∈ GW := gw_in 514 (by decide +kernel) rfl
theorem wmt_X10_value : Cond.selects m_X10_value.1.cls m_X10_value.1 m_X10_value.1 ∈ GW := gw_in 515 (by decide +kernel) rfl
theorem wmd_X10_value : m_X10_value.1.cls ≠ "java/lang/invoke/MethodHandle" ∧ m_X10_value.1.cls ≠ "java/lang/invoke/VarHandle" ∧ (parseMethodDescriptor m_X10_value.1.desc).map (fun d => d.parameters.length) = some 1 := by decide +kernel
theorem lk_X10_72 : zLV RX10 72 m_X10_value 1 := ⟨rfl, gw_in 517 (by decide +kernel) rfl, wms_X10_value, wmt_X10_value, wi_X10, wm_X10_value, wmd_X10_value, by decide⟩
theorem wms_J9_min_f86c9 : Cond.static m_J9_min_f86c9.1 ∈ GW := gw_in 521 (by decide +kernel) rfl
theorem wmd_J9_min_f86c9 : m_J9_min_f86c9.1.cls ≠ "java/lang/invoke/MethodHandle" ∧ m_J9_min_f86c9.1.cls ≠ "java/lang/invoke/VarHandle" ∧ (parseMethodDescriptor m_J9_min_f86c9.1.desc).map (fun d => d.parameters.length) = some 2 := by decide +kernel
theorem lk_X10_80 : zLS RX10 80 m_J9_min_f86c9 2 := ⟨rfl, gw_in 520 (by decide +kernel) rfl, wms_J9_min_f86c9, wi_J9, wm_J9_min_f86c9, wmd_J9_min_f86c9, by decide⟩
theorem wms_J9_max_f86c9 : Cond.static m_J9_max_f86c9.1 ∈ GW := gw_in 524 (by decide +kernel) rfl
theorem wmd_J9_max_f86c9 : m_J9_max_f86c9.1.cls ≠ "java/lang/invoke/MethodHandle" ∧ m_J9_max_f86c9.1.cls ≠ "java/lang/invoke/VarHandle" ∧ (parseMethodDescriptor m_J9_max_f86c9.1.desc).map (fun d => d.parameters.length) = some 2 := by decide +kernel
theorem lk_X10_86 : zLS RX10 86 m_J9_max_f86c9 2 := ⟨rfl, gw_in 523 (by decide +kernel) rfl, wms_J9_max_f86c9, wi_J9, wm_J9_max_f86c9, wmd_J9_max_f86c9, by decide⟩
theorem wms_X10_init : Cond.instanceMethod m_X10_init.1 ∈ GW := gw_in 1235 (by decide +kernel) rfl
theorem wmd_X10_init : m_X10_init.1.cls ≠ "java/lang/invoke/MethodHandle" ∧ m_X10_init.1.cls ≠ "java/lang/invoke/VarHandle" ∧ (parseMethodDescriptor m_X10_init.1.desc).map (fun d => d.parameters.length) = some 0 := by decide +kernel
theorem lk_X10_9 : zLI RX10 9 m_X10_init 0 := ⟨rfl, gw_in 1234 (by decide +kernel) rfl, wms_X10_init, wi_X10, wm_X10_init, rfl, rfl, wmd_X10_init, by decide⟩
theorem lk_X12_100 : zLV RX12 100 m_X12_product 2 := ⟨rfl, gw_in 540 (by decide +kernel) rfl, wms_X12_product, wmt_X12_product, wi_X12, wm_X12_product, wmd_X12_product, by decide⟩
theorem lk_X12_104 : zLSN RX12 104 m_L_isNeutral 1 := ⟨rfl, List.mem_of_getElem? (i := 548) (by decide +kernel), wms_L_isNeutral, wi_L, wm_L_isNeutral, wmd_L_isNeutral, by decide⟩
theorem wms_X12_pay : Cond.instanceMethod m_X12_pay.1 ∈ GW := gw_in 550 (by decide +kernel) rfl
theorem wmt_X12_pay : Cond.selects m_X12_pay.1.cls m_X12_pay.1 m_X12_pay.1 ∈ GW := gw_in 551 (by decide +kernel) rfl
theorem wmd_X12_pay : m_X12_pay.1.cls ≠ "java/lang/invoke/MethodHandle" ∧ m_X12_pay.1.cls ≠ "java/lang/invoke/VarHandle" ∧ (parseMethodDescriptor m_X12_pay.1.desc).map (fun d => d.parameters.length) = some 2 := by decide +kernel
theorem lk_X12_108 : zLV RX12 108 m_X12_pay 2 := ⟨rfl, gw_in 549 (by decide +kernel) rfl, wms_X12_pay, wmt_X12_pay, wi_X12, wm_X12_pay, wmd_X12_pay, by decide⟩
theorem wms_X12_ends : Cond.instanceMethod m_X12_ends.1 ∈ GW := gw_in 556 (by decide +kernel) rfl
theorem wmt_X12_ends : Cond.selects m_X12_ends.1.cls m_X12_ends.1 m_X12_ends.1 ∈ GW := gw_in 557 (by decide +kernel) rfl
theorem wmd_X12_ends : m_X12_ends.1.cls ≠ "java/lang/invoke/MethodHandle" ∧ m_X12_ends.1.cls ≠ "java/lang/invoke/VarHandle" ∧ (parseMethodDescriptor m_X12_ends.1.desc).map (fun d => d.parameters.length) = some 0 := by decide +kernel
theorem lk_X12_112 : zLV RX12 112 m_X12_ends 0 := ⟨rfl, gw_in 555 (by decide +kernel) rfl, wms_X12_ends, wmt_X12_ends, wi_X12, wm_X12_ends, wmd_X12_ends, by decide⟩
theorem lk_X12_115 : zLV RX12 115 m_X12_price 1 := ⟨rfl, gw_in 500 (by decide +kernel) rfl, wms_X12_price, wmt_X12_price, wi_X12, wm_X12_price, wmd_X12_price, by decide⟩
theorem lk_X12_119 : zLI RX12 119 m_X9_init 3 := ⟨rfl, gw_in 529 (by decide +kernel) rfl, wms_X9_init, wi_X9, wm_X9_init, rfl, rfl, wmd_X9_init, by decide⟩
theorem lk_X12_122 : zLSN RX12 122 m_L_with 2 := ⟨rfl, List.mem_of_getElem? (i := 530) (by decide +kernel), wms_L_with, wi_L, wm_L_with, wmd_L_with, by decide⟩
theorem lk_X12_126 : zLSN RX12 126 m_L_without 2 := ⟨rfl, List.mem_of_getElem? (i := 533) (by decide +kernel), wms_L_without, wi_L, wm_L_without, wmd_L_without, by decide⟩
theorem wms_X12_finish : Cond.instanceMethod m_X12_finish.1 ∈ GW := gw_in 537 (by decide +kernel) rfl
theorem wmt_X12_finish : Cond.selects m_X12_finish.1.cls m_X12_finish.1 m_X12_finish.1 ∈ GW := gw_in 538 (by decide +kernel) rfl
theorem wmd_X12_finish : m_X12_finish.1.cls ≠ "java/lang/invoke/MethodHandle" ∧ m_X12_finish.1.cls ≠ "java/lang/invoke/VarHandle" ∧ (parseMethodDescriptor m_X12_finish.1.desc).map (fun d => d.parameters.length) = some 0 := by decide +kernel
theorem lk_X12_130 : zLV RX12 130 m_X12_finish 0 := ⟨rfl, gw_in 536 (by decide +kernel) rfl, wms_X12_finish, wmt_X12_finish, wi_X12, wm_X12_finish, wmd_X12_finish, by decide⟩
theorem lk_X12_137 : zLV RX12 137 m_X12_isOver 0 := ⟨rfl, gw_in 1532 (by decide +kernel) rfl, wms_X12_isOver, wmt_X12_isOver, wi_X12, wm_X12_isOver, wmd_X12_isOver, by decide⟩
theorem lk_X12_143 : zLV RX12 143 m_X12_told 1 := ⟨rfl, gw_in 1528 (by decide +kernel) rfl, wms_X12_told, wmt_X12_told, wi_X12, wm_X12_told, wmd_X12_told, by decide⟩
theorem lk_X12_147 : zLSN RX12 147 m_L_number 1 := ⟨rfl, List.mem_of_getElem? (i := 1533) (by decide +kernel), wms_L_number, wi_L, wm_L_number, wmd_L_number, by decide⟩
theorem lk_X12_34 : zLI RX12 34 m_X12_init 0 := ⟨rfl, gw_in 484 (by decide +kernel) rfl, wms_X12_init, wi_X12, wm_X12_init, rfl, rfl, wmd_X12_init, by decide⟩
theorem lk_X12_59 : zLSN RX12 59 m_L_neutral 1 := ⟨rfl, List.mem_of_getElem? (i := 544) (by decide +kernel), wms_L_neutral, wi_L, wm_L_neutral, wmd_L_neutral, by decide⟩
theorem lk_X12_68 : zLSN RX12 68 m_L_times 2 := ⟨rfl, List.mem_of_getElem? (i := 547) (by decide +kernel), wms_L_times, wi_L, wm_L_times, wmd_L_times, by decide⟩
theorem wms_L_orderOf : Cond.static m_L_orderOf.1 ∈ GW := gw_in 505 (by decide +kernel) rfl
theorem wmd_L_orderOf : m_L_orderOf.1.cls ≠ "java/lang/invoke/MethodHandle" ∧ m_L_orderOf.1.cls ≠ "java/lang/invoke/VarHandle" ∧ (parseMethodDescriptor m_L_orderOf.1.desc).map (fun d => d.parameters.length) = some 1 := by decide +kernel
theorem lk_X12_75 : zLSN RX12 75 m_L_orderOf 1 := ⟨rfl, List.mem_of_getElem? (i := 504) (by decide +kernel), wms_L_orderOf, wi_L, wm_L_orderOf, wmd_L_orderOf, by decide⟩
theorem lk_X12_79 : zLV RX12 79 m_X10_value 1 := ⟨rfl, gw_in 513 (by decide +kernel) rfl, wms_X10_value, wmt_X10_value, wi_X10, wm_X10_value, wmd_X10_value, by decide⟩
theorem lk_X12_87 : zLS RX12 87 m_J9_min_f86c9 2 := ⟨rfl, gw_in 527 (by decide +kernel) rfl, wms_J9_min_f86c9, wi_J9, wm_J9_min_f86c9, wmd_J9_min_f86c9, by decide⟩
theorem lk_X12_93 : zLS RX12 93 m_J9_max_f86c9 2 := ⟨rfl, gw_in 528 (by decide +kernel) rfl, wms_J9_max_f86c9, wi_J9, wm_J9_max_f86c9, wmd_J9_max_f86c9, by decide⟩
theorem lk_X12_97 : zLS RX12 97 m_J9_min_7cf53 2 := ⟨rfl, gw_in 554 (by decide +kernel) rfl, wms_J9_min_7cf53, wi_J9, wm_J9_min_7cf53, wmd_J9_min_7cf53, by decide⟩
theorem lk_X1_11 : zLI RX1 11 m_X6_init 1 := ⟨rfl, gw_in 135 (by decide +kernel) rfl, wms_X6_init, wi_X6, wm_X6_init, rfl, rfl, wmd_X6_init, by decide⟩
theorem lk_X1_30 : zLV RX1 30 m_X6_clear 0 := ⟨rfl, gw_in 765 (by decide +kernel) rfl, wms_X6_clear, wmt_X6_clear, wi_X6, wm_X6_clear, wmd_X6_clear, by decide⟩
theorem lk_X1_33 : zLV RX1 33 m_X6_copyFrom 1 := ⟨rfl, gw_in 376 (by decide +kernel) rfl, wms_X6_copyFrom, wmt_X6_copyFrom, wi_X6, wm_X6_copyFrom, wmd_X6_copyFrom, by decide⟩
theorem lk_X1_37 : zLV RX1 37 m_X6_push 1 := ⟨rfl, gw_in 799 (by decide +kernel) rfl, wms_X6_push, wmt_X6_push, wi_X6, wm_X6_push, wmd_X6_push, by decide⟩
theorem lk_X1_40 : zLV RX1 40 m_X6_remove 1 := ⟨rfl, gw_in 1116 (by decide +kernel) rfl, wms_X6_remove, wmt_X6_remove, wi_X6, wm_X6_remove, wmd_X6_remove, by decide⟩
theorem lk_X1_44 : zLS RX1 44 m_J9_min_7cf53 2 := ⟨rfl, gw_in 1129 (by decide +kernel) rfl, wms_J9_min_7cf53, wi_J9, wm_J9_min_7cf53, wmd_J9_min_7cf53, by decide⟩
theorem lk_X1_50 : zLS RX1 50 m_J9_max_7cf53 2 := ⟨rfl, gw_in 1130 (by decide +kernel) rfl, wms_J9_max_7cf53, wi_J9, wm_J9_max_7cf53, wmd_J9_max_7cf53, by decide⟩
theorem wms_J6_bitCount_0f7a4 : Cond.static m_J6_bitCount_0f7a4.1 ∈ GW := gw_in 86 (by decide +kernel) rfl
theorem wmd_J6_bitCount_0f7a4 : m_J6_bitCount_0f7a4.1.cls ≠ "java/lang/invoke/MethodHandle" ∧ m_J6_bitCount_0f7a4.1.cls ≠ "java/lang/invoke/VarHandle" ∧ (parseMethodDescriptor m_J6_bitCount_0f7a4.1.desc).map (fun d => d.parameters.length) = some 1 := by decide +kernel
theorem lk_X2_18 : zLS RX2 18 m_J6_bitCount_0f7a4 1 := ⟨rfl, gw_in 85 (by decide +kernel) rfl, wms_J6_bitCount_0f7a4, wi_J6, wm_J6_bitCount_0f7a4, wmd_J6_bitCount_0f7a4, by decide⟩
theorem wms_X2_goal : Cond.instanceMethod m_X2_goal.1 ∈ GW := gw_in 929 (by decide +kernel) rfl
theorem wmt_X2_goal : Cond.selects m_X2_goal.1.cls m_X2_goal.1 m_X2_goal.1 ∈ GW := gw_in 24 (by decide +kernel) rfl
theorem wmd_X2_goal : m_X2_goal.1.cls ≠ "java/lang/invoke/MethodHandle" ∧ m_X2_goal.1.cls ≠ "java/lang/invoke/VarHandle" ∧ (parseMethodDescriptor m_X2_goal.1.desc).map (fun d => d.parameters.length) = some 2 := by decide +kernel
theorem lk_X2_24 : zLV RX2 24 m_X2_goal 2 := ⟨rfl, gw_in 927 (by decide +kernel) rfl, wms_X2_goal, wmt_X2_goal, wi_X2, wm_X2_goal, wmd_X2_goal, by decide⟩
theorem wms_X2_longerKey : Cond.instanceMethod m_X2_longerKey.1 ∈ GW := gw_in 789 (by decide +kernel) rfl
theorem wmt_X2_longerKey : Cond.selects m_X2_longerKey.1.cls m_X2_longerKey.1 m_X2_longerKey.1 ∈ GW := gw_in 14 (by decide +kernel) rfl
theorem wmd_X2_longerKey : m_X2_longerKey.1.cls ≠ "java/lang/invoke/MethodHandle" ∧ m_X2_longerKey.1.cls ≠ "java/lang/invoke/VarHandle" ∧ (parseMethodDescriptor m_X2_longerKey.1.desc).map (fun d => d.parameters.length) = some 2 := by decide +kernel
theorem lk_X2_28 : zLV RX2 28 m_X2_longerKey 2 := ⟨rfl, gw_in 787 (by decide +kernel) rfl, wms_X2_longerKey, wmt_X2_longerKey, wi_X2, wm_X2_longerKey, wmd_X2_longerKey, by decide⟩
theorem wms_X2_withKey : Cond.instanceMethod m_X2_withKey.1 ∈ GW := gw_in 793 (by decide +kernel) rfl
theorem wmt_X2_withKey : Cond.selects m_X2_withKey.1.cls m_X2_withKey.1 m_X2_withKey.1 ∈ GW := gw_in 15 (by decide +kernel) rfl
theorem wmd_X2_withKey : m_X2_withKey.1.cls ≠ "java/lang/invoke/MethodHandle" ∧ m_X2_withKey.1.cls ≠ "java/lang/invoke/VarHandle" ∧ (parseMethodDescriptor m_X2_withKey.1.desc).map (fun d => d.parameters.length) = some 1 := by decide +kernel
theorem lk_X2_31 : zLV RX2 31 m_X2_withKey 1 := ⟨rfl, gw_in 791 (by decide +kernel) rfl, wms_X2_withKey, wmt_X2_withKey, wi_X2, wm_X2_withKey, wmd_X2_withKey, by decide⟩
theorem lk_X2_34 : zLV RX2 34 m_X2_times 2 := ⟨rfl, gw_in 940 (by decide +kernel) rfl, wms_X2_times, wmt_X2_times, wi_X2, wm_X2_times, wmd_X2_times, by decide⟩
theorem wms_X3_contains : Cond.instanceMethod m_X3_contains.1 ∈ GW := gw_in 1049 (by decide +kernel) rfl
theorem wmt_X3_contains : Cond.selects m_X3_contains.1.cls m_X3_contains.1 m_X3_contains.1 ∈ GW := gw_in 31 (by decide +kernel) rfl
theorem wmd_X3_contains : m_X3_contains.1.cls ≠ "java/lang/invoke/MethodHandle" ∧ m_X3_contains.1.cls ≠ "java/lang/invoke/VarHandle" ∧ (parseMethodDescriptor m_X3_contains.1.desc).map (fun d => d.parameters.length) = some 2 := by decide +kernel
theorem lk_X3_100 : zLV RX3 100 m_X3_contains 2 := ⟨rfl, gw_in 1047 (by decide +kernel) rfl, wms_X3_contains, wmt_X3_contains, wi_X3, wm_X3_contains, wmd_X3_contains, by decide⟩
theorem lk_X3_112 : zLS RX3 112 m_J6_bitCount_0f7a4 1 := ⟨rfl, gw_in 1071 (by decide +kernel) rfl, wms_J6_bitCount_0f7a4, wi_J6, wm_J6_bitCount_0f7a4, wmd_J6_bitCount_0f7a4, by decide⟩
theorem lk_X3_25 : zLI RX3 25 m_X6_init 1 := ⟨rfl, gw_in 306 (by decide +kernel) rfl, wms_X6_init, wi_X6, wm_X6_init, rfl, rfl, wmd_X6_init, by decide⟩
theorem wms_X3_takeHand : Cond.instanceMethod m_X3_takeHand.1 ∈ GW := gw_in 1004 (by decide +kernel) rfl
theorem wmt_X3_takeHand : Cond.selects m_X3_takeHand.1.cls m_X3_takeHand.1 m_X3_takeHand.1 ∈ GW := gw_in 26 (by decide +kernel) rfl
theorem wmd_X3_takeHand : m_X3_takeHand.1.cls ≠ "java/lang/invoke/MethodHandle" ∧ m_X3_takeHand.1.cls ≠ "java/lang/invoke/VarHandle" ∧ (parseMethodDescriptor m_X3_takeHand.1.desc).map (fun d => d.parameters.length) = some 2 := by decide +kernel
theorem lk_X3_32 : zLV RX3 32 m_X3_takeHand 2 := ⟨rfl, gw_in 1002 (by decide +kernel) rfl, wms_X3_takeHand, wmt_X3_takeHand, wi_X3, wm_X3_takeHand, wmd_X3_takeHand, by decide⟩
theorem wms_X3_include : Cond.instanceMethod m_X3_include.1 ∈ GW := gw_in 1019 (by decide +kernel) rfl
theorem wmt_X3_include : Cond.selects m_X3_include.1.cls m_X3_include.1 m_X3_include.1 ∈ GW := gw_in 27 (by decide +kernel) rfl
theorem wmd_X3_include : m_X3_include.1.cls ≠ "java/lang/invoke/MethodHandle" ∧ m_X3_include.1.cls ≠ "java/lang/invoke/VarHandle" ∧ (parseMethodDescriptor m_X3_include.1.desc).map (fun d => d.parameters.length) = some 2 := by decide +kernel
theorem lk_X3_36 : zLV RX3 36 m_X3_include 2 := ⟨rfl, gw_in 1017 (by decide +kernel) rfl, wms_X3_include, wmt_X3_include, wi_X3, wm_X3_include, wmd_X3_include, by decide⟩
theorem wms_X3_extend : Cond.instanceMethod m_X3_extend.1 ∈ GW := gw_in 1027 (by decide +kernel) rfl
theorem wmt_X3_extend : Cond.selects m_X3_extend.1.cls m_X3_extend.1 m_X3_extend.1 ∈ GW := gw_in 29 (by decide +kernel) rfl
theorem wmd_X3_extend : m_X3_extend.1.cls ≠ "java/lang/invoke/MethodHandle" ∧ m_X3_extend.1.cls ≠ "java/lang/invoke/VarHandle" ∧ (parseMethodDescriptor m_X3_extend.1.desc).map (fun d => d.parameters.length) = some 2 := by decide +kernel
theorem lk_X3_47 : zLV RX3 47 m_X3_extend 2 := ⟨rfl, gw_in 1025 (by decide +kernel) rfl, wms_X3_extend, wmt_X3_extend, wi_X3, wm_X3_extend, wmd_X3_extend, by decide⟩
theorem wms_J7_fill_d0a16 : Cond.static m_J7_fill_d0a16.1 ∈ GW := gw_in 1007 (by decide +kernel) rfl
theorem wmd_J7_fill_d0a16 : m_J7_fill_d0a16.1.cls ≠ "java/lang/invoke/MethodHandle" ∧ m_J7_fill_d0a16.1.cls ≠ "java/lang/invoke/VarHandle" ∧ (parseMethodDescriptor m_J7_fill_d0a16.1.desc).map (fun d => d.parameters.length) = some 2 := by decide +kernel
theorem lk_X3_50 : zLS RX3 50 m_J7_fill_d0a16 2 := ⟨rfl, gw_in 1006 (by decide +kernel) rfl, wms_J7_fill_d0a16, wi_J7, wm_J7_fill_d0a16, wmd_J7_fill_d0a16, by decide⟩
theorem lk_X3_61 : zLV RX3 61 m_X6_size 0 := ⟨rfl, gw_in 1009 (by decide +kernel) rfl, wms_X6_size, wmt_X6_size, wi_X6, wm_X6_size, wmd_X6_size, by decide⟩
theorem lk_X3_65 : zLS RX3 65 m_J9_min_7cf53 2 := ⟨rfl, gw_in 1010 (by decide +kernel) rfl, wms_J9_min_7cf53, wi_J9, wm_J9_min_7cf53, wmd_J9_min_7cf53, by decide⟩
theorem wms_X2_count : Cond.instanceMethod m_X2_count.1 ∈ GW := gw_in 1012 (by decide +kernel) rfl
theorem wmt_X2_count : Cond.selects m_X2_count.1.cls m_X2_count.1 m_X2_count.1 ∈ GW := gw_in 1013 (by decide +kernel) rfl
theorem wmd_X2_count : m_X2_count.1.cls ≠ "java/lang/invoke/MethodHandle" ∧ m_X2_count.1.cls ≠ "java/lang/invoke/VarHandle" ∧ (parseMethodDescriptor m_X2_count.1.desc).map (fun d => d.parameters.length) = some 1 := by decide +kernel
theorem lk_X3_71 : zLV RX3 71 m_X2_count 1 := ⟨rfl, gw_in 1011 (by decide +kernel) rfl, wms_X2_count, wmt_X2_count, wi_X2, wm_X2_count, wmd_X2_count, by decide⟩
theorem lk_X3_77 : zLV RX3 77 m_X6_at 1 := ⟨rfl, gw_in 1015 (by decide +kernel) rfl, wms_X6_at, wmt_X6_at, wi_X6, wm_X6_at, wmd_X6_at, by decide⟩
theorem lk_X3_80 : zLV RX3 80 m_X2_times 2 := ⟨rfl, gw_in 1016 (by decide +kernel) rfl, wms_X2_times, wmt_X2_times, wi_X2, wm_X2_times, wmd_X2_times, by decide⟩
theorem wms_X3_hasRoomFor : Cond.instanceMethod m_X3_hasRoomFor.1 ∈ GW := gw_in 1023 (by decide +kernel) rfl
theorem wmt_X3_hasRoomFor : Cond.selects m_X3_hasRoomFor.1.cls m_X3_hasRoomFor.1 m_X3_hasRoomFor.1 ∈ GW := gw_in 28 (by decide +kernel) rfl
theorem wmd_X3_hasRoomFor : m_X3_hasRoomFor.1.cls ≠ "java/lang/invoke/MethodHandle" ∧ m_X3_hasRoomFor.1.cls ≠ "java/lang/invoke/VarHandle" ∧ (parseMethodDescriptor m_X3_hasRoomFor.1.desc).map (fun d => d.parameters.length) = some 2 := by decide +kernel
theorem lk_X3_83 : zLV RX3 83 m_X3_hasRoomFor 2 := ⟨rfl, gw_in 1021 (by decide +kernel) rfl, wms_X3_hasRoomFor, wmt_X3_hasRoomFor, wi_X3, wm_X3_hasRoomFor, wmd_X3_hasRoomFor, by decide⟩
theorem wms_J13_bitCount_95d88 : Cond.static m_J13_bitCount_95d88.1 ∈ GW := gw_in 1030 (by decide +kernel) rfl
theorem wmd_J13_bitCount_95d88 : m_J13_bitCount_95d88.1.cls ≠ "java/lang/invoke/MethodHandle" ∧ m_J13_bitCount_95d88.1.cls ≠ "java/lang/invoke/VarHandle" ∧ (parseMethodDescriptor m_J13_bitCount_95d88.1.desc).map (fun d => d.parameters.length) = some 1 := by decide +kernel
theorem lk_X3_87 : zLS RX3 87 m_J13_bitCount_95d88 1 := ⟨rfl, gw_in 1029 (by decide +kernel) rfl, wms_J13_bitCount_95d88, wi_J13, wm_J13_bitCount_95d88, wmd_J13_bitCount_95d88, by decide⟩
theorem wms_X3_timesCard : Cond.instanceMethod m_X3_timesCard.1 ∈ GW := gw_in 1037 (by decide +kernel) rfl
theorem wmt_X3_timesCard : Cond.selects m_X3_timesCard.1.cls m_X3_timesCard.1 m_X3_timesCard.1 ∈ GW := gw_in 30 (by decide +kernel) rfl
theorem wmd_X3_timesCard : m_X3_timesCard.1.cls ≠ "java/lang/invoke/MethodHandle" ∧ m_X3_timesCard.1.cls ≠ "java/lang/invoke/VarHandle" ∧ (parseMethodDescriptor m_X3_timesCard.1.desc).map (fun d => d.parameters.length) = some 2 := by decide +kernel
theorem lk_X3_93 : zLV RX3 93 m_X3_timesCard 2 := ⟨rfl, gw_in 1035 (by decide +kernel) rfl, wms_X3_timesCard, wmt_X3_timesCard, wi_X3, wm_X3_timesCard, wmd_X3_timesCard, by decide⟩
theorem wms_X3_isReached : Cond.instanceMethod m_X3_isReached.1 ∈ GW := gw_in 1044 (by decide +kernel) rfl
theorem wmt_X3_isReached : Cond.selects m_X3_isReached.1.cls m_X3_isReached.1 m_X3_isReached.1 ∈ GW := gw_in 1045 (by decide +kernel) rfl
theorem wmd_X3_isReached : m_X3_isReached.1.cls ≠ "java/lang/invoke/MethodHandle" ∧ m_X3_isReached.1.cls ≠ "java/lang/invoke/VarHandle" ∧ (parseMethodDescriptor m_X3_isReached.1.desc).map (fun d => d.parameters.length) = some 1 := by decide +kernel
theorem lk_X3_96 : zLV RX3 96 m_X3_isReached 1 := ⟨rfl, gw_in 1043 (by decide +kernel) rfl, wms_X3_isReached, wmt_X3_isReached, wi_X3, wm_X3_isReached, wmd_X3_isReached, by decide⟩
theorem wms_X0_init : Cond.instanceMethod m_X0_init.1 ∈ GW := gw_in 124 (by decide +kernel) rfl
theorem wmd_X0_init : m_X0_init.1.cls ≠ "java/lang/invoke/MethodHandle" ∧ m_X0_init.1.cls ≠ "java/lang/invoke/VarHandle" ∧ (parseMethodDescriptor m_X0_init.1.desc).map (fun d => d.parameters.length) = some 1 := by decide +kernel
theorem lk_X4_17 : zLI RX4 17 m_X0_init 1 := ⟨rfl, gw_in 288 (by decide +kernel) rfl, wms_X0_init, wi_X0, wm_X0_init, rfl, rfl, wmd_X0_init, by decide⟩
theorem wms_J9_floorMod_7cf53 : Cond.static m_J9_floorMod_7cf53.1 ∈ GW := gw_in 366 (by decide +kernel) rfl
theorem wmd_J9_floorMod_7cf53 : m_J9_floorMod_7cf53.1.cls ≠ "java/lang/invoke/MethodHandle" ∧ m_J9_floorMod_7cf53.1.cls ≠ "java/lang/invoke/VarHandle" ∧ (parseMethodDescriptor m_J9_floorMod_7cf53.1.desc).map (fun d => d.parameters.length) = some 2 := by decide +kernel
theorem lk_X4_27 : zLS RX4 27 m_J9_floorMod_7cf53 2 := ⟨rfl, gw_in 365 (by decide +kernel) rfl, wms_J9_floorMod_7cf53, wi_J9, wm_J9_floorMod_7cf53, wmd_J9_floorMod_7cf53, by decide⟩
theorem wms_X4_placeOf : Cond.instanceMethod m_X4_placeOf.1 ∈ GW := gw_in 363 (by decide +kernel) rfl
theorem wmt_X4_placeOf : Cond.selects m_X4_placeOf.1.cls m_X4_placeOf.1 m_X4_placeOf.1 ∈ GW := gw_in 0 (by decide +kernel) rfl
theorem wmd_X4_placeOf : m_X4_placeOf.1.cls ≠ "java/lang/invoke/MethodHandle" ∧ m_X4_placeOf.1.cls ≠ "java/lang/invoke/VarHandle" ∧ (parseMethodDescriptor m_X4_placeOf.1.desc).map (fun d => d.parameters.length) = some 1 := by decide +kernel
theorem lk_X4_33 : zLV RX4 33 m_X4_placeOf 1 := ⟨rfl, gw_in 361 (by decide +kernel) rfl, wms_X4_placeOf, wmt_X4_placeOf, wi_X4, wm_X4_placeOf, wmd_X4_placeOf, by decide⟩
theorem wms_X0_copyFrom : Cond.instanceMethod m_X0_copyFrom.1 ∈ GW := gw_in 369 (by decide +kernel) rfl
theorem wmt_X0_copyFrom : Cond.selects m_X0_copyFrom.1.cls m_X0_copyFrom.1 m_X0_copyFrom.1 ∈ GW := gw_in 370 (by decide +kernel) rfl
theorem wmd_X0_copyFrom : m_X0_copyFrom.1.cls ≠ "java/lang/invoke/MethodHandle" ∧ m_X0_copyFrom.1.cls ≠ "java/lang/invoke/VarHandle" ∧ (parseMethodDescriptor m_X0_copyFrom.1.desc).map (fun d => d.parameters.length) = some 1 := by decide +kernel
theorem lk_X4_37 : zLV RX4 37 m_X0_copyFrom 1 := ⟨rfl, gw_in 368 (by decide +kernel) rfl, wms_X0_copyFrom, wmt_X0_copyFrom, wi_X0, wm_X0_copyFrom, wmd_X0_copyFrom, by decide⟩
theorem wms_X5_result : Cond.static m_X5_result.1 ∈ GW := gw_in 953 (by decide +kernel) rfl
theorem wmd_X5_result : m_X5_result.1.cls ≠ "java/lang/invoke/MethodHandle" ∧ m_X5_result.1.cls ≠ "java/lang/invoke/VarHandle" ∧ (parseMethodDescriptor m_X5_result.1.desc).map (fun d => d.parameters.length) = some 3 := by decide +kernel
theorem lk_X5_19 : zLS RX5 19 m_X5_result 3 := ⟨rfl, gw_in 952 (by decide +kernel) rfl, wms_X5_result, wi_X5, wm_X5_result, wmd_X5_result, by decide⟩
theorem wms_X5_operand : Cond.static m_X5_operand.1 ∈ GW := gw_in 960 (by decide +kernel) rfl
theorem wmd_X5_operand : m_X5_operand.1.cls ≠ "java/lang/invoke/MethodHandle" ∧ m_X5_operand.1.cls ≠ "java/lang/invoke/VarHandle" ∧ (parseMethodDescriptor m_X5_operand.1.desc).map (fun d => d.parameters.length) = some 5 := by decide +kernel
theorem lk_X5_23 : zLS RX5 23 m_X5_operand 5 := ⟨rfl, gw_in 959 (by decide +kernel) rfl, wms_X5_operand, wi_X5, wm_X5_operand, wmd_X5_operand, by decide⟩
theorem lk_X5_29 : zLS RX5 29 m_J9_min_f86c9 2 := ⟨rfl, gw_in 957 (by decide +kernel) rfl, wms_J9_min_f86c9, wi_J9, wm_J9_min_f86c9, wmd_J9_min_f86c9, by decide⟩
theorem lk_X5_35 : zLS RX5 35 m_J9_max_f86c9 2 := ⟨rfl, gw_in 958 (by decide +kernel) rfl, wms_J9_max_f86c9, wi_J9, wm_J9_max_f86c9, wmd_J9_max_f86c9, by decide⟩
theorem lk_X6_23 : zLV RX6 23 m_X6_holds 1 := ⟨rfl, gw_in 918 (by decide +kernel) rfl, wms_X6_holds, wmt_X6_holds, wi_X6, wm_X6_holds, wmd_X6_holds, by decide⟩
theorem lk_X6_27 : zLS RX6 27 m_J9_min_7cf53 2 := ⟨rfl, gw_in 380 (by decide +kernel) rfl, wms_J9_min_7cf53, wi_J9, wm_J9_min_7cf53, wmd_J9_min_7cf53, by decide⟩
theorem wms_J7_copyOf_59c91 : Cond.static m_J7_copyOf_59c91.1 ∈ GW := gw_in 840 (by decide +kernel) rfl
theorem wmd_J7_copyOf_59c91 : m_J7_copyOf_59c91.1.cls ≠ "java/lang/invoke/MethodHandle" ∧ m_J7_copyOf_59c91.1.cls ≠ "java/lang/invoke/VarHandle" ∧ (parseMethodDescriptor m_J7_copyOf_59c91.1.desc).map (fun d => d.parameters.length) = some 2 := by decide +kernel
theorem lk_X6_36 : zLS RX6 36 m_J7_copyOf_59c91 2 := ⟨rfl, gw_in 839 (by decide +kernel) rfl, wms_J7_copyOf_59c91, wi_J7, wm_J7_copyOf_59c91, wmd_J7_copyOf_59c91, by decide⟩
theorem lk_X6_7 : zLS RX6 7 m_J9_max_7cf53 2 := ⟨rfl, gw_in 111 (by decide +kernel) rfl, wms_J9_max_7cf53, wi_J9, wm_J9_max_7cf53, wmd_J9_max_7cf53, by decide⟩
theorem lk_X7_104 : zLV RX7 104 m_J0_charAt_5068e 1 := ⟨rfl, gw_in 693 (by decide +kernel) rfl, wms_J0_charAt_5068e, wmt_J0_charAt_5068e, wi_J0, wm_J0_charAt_5068e, wmd_J0_charAt_5068e, by decide⟩
theorem wms_X7_isSign : Cond.instanceMethod m_X7_isSign.1 ∈ GW := gw_in 745 (by decide +kernel) rfl
theorem wmt_X7_isSign : Cond.selects m_X7_isSign.1.cls m_X7_isSign.1 m_X7_isSign.1 ∈ GW := gw_in 9 (by decide +kernel) rfl
theorem wmd_X7_isSign : m_X7_isSign.1.cls ≠ "java/lang/invoke/MethodHandle" ∧ m_X7_isSign.1.cls ≠ "java/lang/invoke/VarHandle" ∧ (parseMethodDescriptor m_X7_isSign.1.desc).map (fun d => d.parameters.length) = some 1 := by decide +kernel
theorem lk_X7_108 : zLV RX7 108 m_X7_isSign 1 := ⟨rfl, gw_in 743 (by decide +kernel) rfl, wms_X7_isSign, wmt_X7_isSign, wi_X7, wm_X7_isSign, wmd_X7_isSign, by decide⟩
theorem wms_X7_fail : Cond.instanceMethod m_X7_fail.1 ∈ GW := gw_in 733 (by decide +kernel) rfl
theorem wmt_X7_fail : Cond.selects m_X7_fail.1.cls m_X7_fail.1 m_X7_fail.1 ∈ GW := gw_in 6 (by decide +kernel) rfl
theorem wmd_X7_fail : m_X7_fail.1.cls ≠ "java/lang/invoke/MethodHandle" ∧ m_X7_fail.1.cls ≠ "java/lang/invoke/VarHandle" ∧ (parseMethodDescriptor m_X7_fail.1.desc).map (fun d => d.parameters.length) = some 2 := by decide +kernel
theorem lk_X7_112 : zLV RX7 112 m_X7_fail 2 := ⟨rfl, gw_in 731 (by decide +kernel) rfl, wms_X7_fail, wmt_X7_fail, wi_X7, wm_X7_fail, wmd_X7_fail, by decide⟩
theorem wms_X2_fromNumber : Cond.instanceMethod m_X2_fromNumber.1 ∈ GW := gw_in 784 (by decide +kernel) rfl
theorem wmt_X2_fromNumber : Cond.selects m_X2_fromNumber.1.cls m_X2_fromNumber.1 m_X2_fromNumber.1 ∈ GW := gw_in 785 (by decide +kernel) rfl
theorem wmd_X2_fromNumber : m_X2_fromNumber.1.cls ≠ "java/lang/invoke/MethodHandle" ∧ m_X2_fromNumber.1.cls ≠ "java/lang/invoke/VarHandle" ∧ (parseMethodDescriptor m_X2_fromNumber.1.desc).map (fun d => d.parameters.length) = some 2 := by decide +kernel
theorem lk_X7_122 : zLV RX7 122 m_X2_fromNumber 2 := ⟨rfl, gw_in 783 (by decide +kernel) rfl, wms_X2_fromNumber, wmt_X2_fromNumber, wi_X2, wm_X2_fromNumber, wmd_X2_fromNumber, by decide⟩
theorem wms_X7_isWord : Cond.instanceMethod m_X7_isWord.1 ∈ GW := gw_in 681 (by decide +kernel) rfl
theorem wmt_X7_isWord : Cond.selects m_X7_isWord.1.cls m_X7_isWord.1 m_X7_isWord.1 ∈ GW := gw_in 5 (by decide +kernel) rfl
theorem wmd_X7_isWord : m_X7_isWord.1.cls ≠ "java/lang/invoke/MethodHandle" ∧ m_X7_isWord.1.cls ≠ "java/lang/invoke/VarHandle" ∧ (parseMethodDescriptor m_X7_isWord.1.desc).map (fun d => d.parameters.length) = some 1 := by decide +kernel
theorem lk_X7_128 : zLV RX7 128 m_X7_isWord 1 := ⟨rfl, gw_in 679 (by decide +kernel) rfl, wms_X7_isWord, wmt_X7_isWord, wi_X7, wm_X7_isWord, wmd_X7_isWord, by decide⟩
theorem wms_X7_takeNumber : Cond.instanceMethod m_X7_takeNumber.1 ∈ GW := gw_in 737 (by decide +kernel) rfl
theorem wmt_X7_takeNumber : Cond.selects m_X7_takeNumber.1.cls m_X7_takeNumber.1 m_X7_takeNumber.1 ∈ GW := gw_in 7 (by decide +kernel) rfl
theorem wmd_X7_takeNumber : m_X7_takeNumber.1.cls ≠ "java/lang/invoke/MethodHandle" ∧ m_X7_takeNumber.1.cls ≠ "java/lang/invoke/VarHandle" ∧ (parseMethodDescriptor m_X7_takeNumber.1.desc).map (fun d => d.parameters.length) = some 2 := by decide +kernel
theorem lk_X7_132 : zLV RX7 132 m_X7_takeNumber 2 := ⟨rfl, gw_in 735 (by decide +kernel) rfl, wms_X7_takeNumber, wmt_X7_takeNumber, wi_X7, wm_X7_takeNumber, wmd_X7_takeNumber, by decide⟩
theorem wms_X7_takeSign : Cond.instanceMethod m_X7_takeSign.1 ∈ GW := gw_in 741 (by decide +kernel) rfl
theorem wmt_X7_takeSign : Cond.selects m_X7_takeSign.1.cls m_X7_takeSign.1 m_X7_takeSign.1 ∈ GW := gw_in 8 (by decide +kernel) rfl
theorem wmd_X7_takeSign : m_X7_takeSign.1.cls ≠ "java/lang/invoke/MethodHandle" ∧ m_X7_takeSign.1.cls ≠ "java/lang/invoke/VarHandle" ∧ (parseMethodDescriptor m_X7_takeSign.1.desc).map (fun d => d.parameters.length) = some 1 := by decide +kernel
theorem lk_X7_135 : zLV RX7 135 m_X7_takeSign 1 := ⟨rfl, gw_in 739 (by decide +kernel) rfl, wms_X7_takeSign, wmt_X7_takeSign, wi_X7, wm_X7_takeSign, wmd_X7_takeSign, by decide⟩
theorem wms_X7_takePlayer : Cond.instanceMethod m_X7_takePlayer.1 ∈ GW := gw_in 754 (by decide +kernel) rfl
theorem wmt_X7_takePlayer : Cond.selects m_X7_takePlayer.1.cls m_X7_takePlayer.1 m_X7_takePlayer.1 ∈ GW := gw_in 11 (by decide +kernel) rfl
theorem wmd_X7_takePlayer : m_X7_takePlayer.1.cls ≠ "java/lang/invoke/MethodHandle" ∧ m_X7_takePlayer.1.cls ≠ "java/lang/invoke/VarHandle" ∧ (parseMethodDescriptor m_X7_takePlayer.1.desc).map (fun d => d.parameters.length) = some 0 := by decide +kernel
theorem lk_X7_140 : zLV RX7 140 m_X7_takePlayer 0 := ⟨rfl, gw_in 752 (by decide +kernel) rfl, wms_X7_takePlayer, wmt_X7_takePlayer, wi_X7, wm_X7_takePlayer, wmd_X7_takePlayer, by decide⟩
theorem wms_X7_takeCard : Cond.instanceMethod m_X7_takeCard.1 ∈ GW := gw_in 769 (by decide +kernel) rfl
theorem wmt_X7_takeCard : Cond.selects m_X7_takeCard.1.cls m_X7_takeCard.1 m_X7_takeCard.1 ∈ GW := gw_in 12 (by decide +kernel) rfl
theorem wmd_X7_takeCard : m_X7_takeCard.1.cls ≠ "java/lang/invoke/MethodHandle" ∧ m_X7_takeCard.1.cls ≠ "java/lang/invoke/VarHandle" ∧ (parseMethodDescriptor m_X7_takeCard.1.desc).map (fun d => d.parameters.length) = some 0 := by decide +kernel
theorem lk_X7_145 : zLV RX7 145 m_X7_takeCard 0 := ⟨rfl, gw_in 767 (by decide +kernel) rfl, wms_X7_takeCard, wmt_X7_takeCard, wi_X7, wm_X7_takeCard, wmd_X7_takeCard, by decide⟩
theorem wms_X7_takeLot : Cond.instanceMethod m_X7_takeLot.1 ∈ GW := gw_in 806 (by decide +kernel) rfl
theorem wmt_X7_takeLot : Cond.selects m_X7_takeLot.1.cls m_X7_takeLot.1 m_X7_takeLot.1 ∈ GW := gw_in 16 (by decide +kernel) rfl
theorem wmd_X7_takeLot : m_X7_takeLot.1.cls ≠ "java/lang/invoke/MethodHandle" ∧ m_X7_takeLot.1.cls ≠ "java/lang/invoke/VarHandle" ∧ (parseMethodDescriptor m_X7_takeLot.1.desc).map (fun d => d.parameters.length) = some 0 := by decide +kernel
theorem lk_X7_150 : zLV RX7 150 m_X7_takeLot 0 := ⟨rfl, gw_in 804 (by decide +kernel) rfl, wms_X7_takeLot, wmt_X7_takeLot, wi_X7, wm_X7_takeLot, wmd_X7_takeLot, by decide⟩
theorem wms_X7_takePrice : Cond.instanceMethod m_X7_takePrice.1 ∈ GW := gw_in 812 (by decide +kernel) rfl
theorem wmt_X7_takePrice : Cond.selects m_X7_takePrice.1.cls m_X7_takePrice.1 m_X7_takePrice.1 ∈ GW := gw_in 17 (by decide +kernel) rfl
theorem wmd_X7_takePrice : m_X7_takePrice.1.cls ≠ "java/lang/invoke/MethodHandle" ∧ m_X7_takePrice.1.cls ≠ "java/lang/invoke/VarHandle" ∧ (parseMethodDescriptor m_X7_takePrice.1.desc).map (fun d => d.parameters.length) = some 0 := by decide +kernel
theorem lk_X7_155 : zLV RX7 155 m_X7_takePrice 0 := ⟨rfl, gw_in 810 (by decide +kernel) rfl, wms_X7_takePrice, wmt_X7_takePrice, wi_X7, wm_X7_takePrice, wmd_X7_takePrice, by decide⟩
theorem wms_X0_addPlayer : Cond.instanceMethod m_X0_addPlayer.1 ∈ GW := gw_in 758 (by decide +kernel) rfl
theorem wmt_X0_addPlayer : Cond.selects m_X0_addPlayer.1.cls m_X0_addPlayer.1 m_X0_addPlayer.1 ∈ GW := gw_in 759 (by decide +kernel) rfl
theorem wmd_X0_addPlayer : m_X0_addPlayer.1.cls ≠ "java/lang/invoke/MethodHandle" ∧ m_X0_addPlayer.1.cls ≠ "java/lang/invoke/VarHandle" ∧ (parseMethodDescriptor m_X0_addPlayer.1.desc).map (fun d => d.parameters.length) = some 1 := by decide +kernel
theorem lk_X7_162 : zLV RX7 162 m_X0_addPlayer 1 := ⟨rfl, gw_in 757 (by decide +kernel) rfl, wms_X0_addPlayer, wmt_X0_addPlayer, wi_X0, wm_X0_addPlayer, wmd_X0_addPlayer, by decide⟩
theorem lk_X7_165 : zLV RX7 165 m_X0_bidder 1 := ⟨rfl, gw_in 771 (by decide +kernel) rfl, wms_X0_bidder, wmt_X0_bidder, wi_X0, wm_X0_bidder, wmd_X0_bidder, by decide⟩
theorem lk_X7_174 : zLV RX7 174 m_X6_isFull 0 := ⟨rfl, gw_in 775 (by decide +kernel) rfl, wms_X6_isFull, wmt_X6_isFull, wi_X6, wm_X6_isFull, wmd_X6_isFull, by decide⟩
theorem wms_X7_takeElement : Cond.instanceMethod m_X7_takeElement.1 ∈ GW := gw_in 781 (by decide +kernel) rfl
theorem wmt_X7_takeElement : Cond.selects m_X7_takeElement.1.cls m_X7_takeElement.1 m_X7_takeElement.1 ∈ GW := gw_in 13 (by decide +kernel) rfl
theorem wmd_X7_takeElement : m_X7_takeElement.1.cls ≠ "java/lang/invoke/MethodHandle" ∧ m_X7_takeElement.1.cls ≠ "java/lang/invoke/VarHandle" ∧ (parseMethodDescriptor m_X7_takeElement.1.desc).map (fun d => d.parameters.length) = some 0 := by decide +kernel
theorem lk_X7_177 : zLV RX7 177 m_X7_takeElement 0 := ⟨rfl, gw_in 779 (by decide +kernel) rfl, wms_X7_takeElement, wmt_X7_takeElement, wi_X7, wm_X7_takeElement, wmd_X7_takeElement, by decide⟩
theorem wms_X1_takeCard : Cond.instanceMethod m_X1_takeCard.1 ∈ GW := gw_in 796 (by decide +kernel) rfl
theorem wmt_X1_takeCard : Cond.selects m_X1_takeCard.1.cls m_X1_takeCard.1 m_X1_takeCard.1 ∈ GW := gw_in 797 (by decide +kernel) rfl
theorem wmd_X1_takeCard : m_X1_takeCard.1.cls ≠ "java/lang/invoke/MethodHandle" ∧ m_X1_takeCard.1.cls ≠ "java/lang/invoke/VarHandle" ∧ (parseMethodDescriptor m_X1_takeCard.1.desc).map (fun d => d.parameters.length) = some 2 := by decide +kernel
theorem lk_X7_180 : zLV RX7 180 m_X1_takeCard 2 := ⟨rfl, gw_in 795 (by decide +kernel) rfl, wms_X1_takeCard, wmt_X1_takeCard, wi_X1, wm_X1_takeCard, wmd_X1_takeCard, by decide⟩
theorem lk_X7_186 : zLV RX7 186 m_X6_push 1 := ⟨rfl, gw_in 808 (by decide +kernel) rfl, wms_X6_push, wmt_X6_push, wi_X6, wm_X6_push, wmd_X6_push, by decide⟩
theorem wms_X7_takeSum : Cond.instanceMethod m_X7_takeSum.1 ∈ GW := gw_in 816 (by decide +kernel) rfl
theorem wmt_X7_takeSum : Cond.selects m_X7_takeSum.1.cls m_X7_takeSum.1 m_X7_takeSum.1 ∈ GW := gw_in 18 (by decide +kernel) rfl
theorem wmd_X7_takeSum : m_X7_takeSum.1.cls ≠ "java/lang/invoke/MethodHandle" ∧ m_X7_takeSum.1.cls ≠ "java/lang/invoke/VarHandle" ∧ (parseMethodDescriptor m_X7_takeSum.1.desc).map (fun d => d.parameters.length) = some 1 := by decide +kernel
theorem lk_X7_189 : zLV RX7 189 m_X7_takeSum 1 := ⟨rfl, gw_in 814 (by decide +kernel) rfl, wms_X7_takeSum, wmt_X7_takeSum, wi_X7, wm_X7_takeSum, wmd_X7_takeSum, by decide⟩
theorem wms_X6_toArray : Cond.instanceMethod m_X6_toArray.1 ∈ GW := gw_in 836 (by decide +kernel) rfl
theorem wmt_X6_toArray : Cond.selects m_X6_toArray.1.cls m_X6_toArray.1 m_X6_toArray.1 ∈ GW := gw_in 837 (by decide +kernel) rfl
theorem wmd_X6_toArray : m_X6_toArray.1.cls ≠ "java/lang/invoke/MethodHandle" ∧ m_X6_toArray.1.cls ≠ "java/lang/invoke/VarHandle" ∧ (parseMethodDescriptor m_X6_toArray.1.desc).map (fun d => d.parameters.length) = some 0 := by decide +kernel
theorem lk_X7_194 : zLV RX7 194 m_X6_toArray 0 := ⟨rfl, gw_in 835 (by decide +kernel) rfl, wms_X6_toArray, wmt_X6_toArray, wi_X6, wm_X6_toArray, wmd_X6_toArray, by decide⟩
theorem lk_X7_198 : zLI RX7 198 m_X5_init 1 := ⟨rfl, gw_in 846 (by decide +kernel) rfl, wms_X5_init, wi_X5, wm_X5_init, rfl, rfl, wmd_X5_init, by decide⟩
theorem wms_X0_setRule : Cond.instanceMethod m_X0_setRule.1 ∈ GW := gw_in 848 (by decide +kernel) rfl
theorem wmt_X0_setRule : Cond.selects m_X0_setRule.1.cls m_X0_setRule.1 m_X0_setRule.1 ∈ GW := gw_in 849 (by decide +kernel) rfl
theorem wmd_X0_setRule : m_X0_setRule.1.cls ≠ "java/lang/invoke/MethodHandle" ∧ m_X0_setRule.1.cls ≠ "java/lang/invoke/VarHandle" ∧ (parseMethodDescriptor m_X0_setRule.1.desc).map (fun d => d.parameters.length) = some 1 := by decide +kernel
theorem lk_X7_201 : zLV RX7 201 m_X0_setRule 1 := ⟨rfl, gw_in 847 (by decide +kernel) rfl, wms_X0_setRule, wmt_X0_setRule, wi_X0, wm_X0_setRule, wmd_X0_setRule, by decide⟩
theorem wms_X7_takeTerm : Cond.instanceMethod m_X7_takeTerm.1 ∈ GW := gw_in 820 (by decide +kernel) rfl
theorem wmt_X7_takeTerm : Cond.selects m_X7_takeTerm.1.cls m_X7_takeTerm.1 m_X7_takeTerm.1 ∈ GW := gw_in 19 (by decide +kernel) rfl
theorem wmd_X7_takeTerm : m_X7_takeTerm.1.cls ≠ "java/lang/invoke/MethodHandle" ∧ m_X7_takeTerm.1.cls ≠ "java/lang/invoke/VarHandle" ∧ (parseMethodDescriptor m_X7_takeTerm.1.desc).map (fun d => d.parameters.length) = some 1 := by decide +kernel
theorem lk_X7_205 : zLV RX7 205 m_X7_takeTerm 1 := ⟨rfl, gw_in 818 (by decide +kernel) rfl, wms_X7_takeTerm, wmt_X7_takeTerm, wi_X7, wm_X7_takeTerm, wmd_X7_takeTerm, by decide⟩
theorem wms_X7_takeFactor : Cond.instanceMethod m_X7_takeFactor.1 ∈ GW := gw_in 824 (by decide +kernel) rfl
theorem wmt_X7_takeFactor : Cond.selects m_X7_takeFactor.1.cls m_X7_takeFactor.1 m_X7_takeFactor.1 ∈ GW := gw_in 20 (by decide +kernel) rfl
theorem wmd_X7_takeFactor : m_X7_takeFactor.1.cls ≠ "java/lang/invoke/MethodHandle" ∧ m_X7_takeFactor.1.cls ≠ "java/lang/invoke/VarHandle" ∧ (parseMethodDescriptor m_X7_takeFactor.1.desc).map (fun d => d.parameters.length) = some 1 := by decide +kernel
theorem lk_X7_208 : zLV RX7 208 m_X7_takeFactor 1 := ⟨rfl, gw_in 822 (by decide +kernel) rfl, wms_X7_takeFactor, wmt_X7_takeFactor, wi_X7, wm_X7_takeFactor, wmd_X7_takeFactor, by decide⟩
theorem lk_X7_21 : zLI RX7 21 m_X6_init 1 := ⟨rfl, gw_in 107 (by decide +kernel) rfl, wms_X6_init, wi_X6, wm_X6_init, rfl, rfl, wmd_X6_init, by decide⟩
theorem wms_X7_takeVariable : Cond.instanceMethod m_X7_takeVariable.1 ∈ GW := gw_in 828 (by decide +kernel) rfl
theorem wmt_X7_takeVariable : Cond.selects m_X7_takeVariable.1.cls m_X7_takeVariable.1 m_X7_takeVariable.1 ∈ GW := gw_in 21 (by decide +kernel) rfl
theorem wmd_X7_takeVariable : m_X7_takeVariable.1.cls ≠ "java/lang/invoke/MethodHandle" ∧ m_X7_takeVariable.1.cls ≠ "java/lang/invoke/VarHandle" ∧ (parseMethodDescriptor m_X7_takeVariable.1.desc).map (fun d => d.parameters.length) = some 0 := by decide +kernel
theorem lk_X7_211 : zLV RX7 211 m_X7_takeVariable 0 := ⟨rfl, gw_in 826 (by decide +kernel) rfl, wms_X7_takeVariable, wmt_X7_takeVariable, wi_X7, wm_X7_takeVariable, wmd_X7_takeVariable, by decide⟩
theorem lk_X7_30 : zLI RX7 30 m_X0_init 1 := ⟨rfl, gw_in 123 (by decide +kernel) rfl, wms_X0_init, wi_X0, wm_X0_init, rfl, rfl, wmd_X0_init, by decide⟩
theorem wms_X0_start : Cond.instanceMethod m_X0_start.1 ∈ GW := gw_in 649 (by decide +kernel) rfl
theorem wmt_X0_start : Cond.selects m_X0_start.1.cls m_X0_start.1 m_X0_start.1 ∈ GW := gw_in 650 (by decide +kernel) rfl
theorem wmd_X0_start : m_X0_start.1.cls ≠ "java/lang/invoke/MethodHandle" ∧ m_X0_start.1.cls ≠ "java/lang/invoke/VarHandle" ∧ (parseMethodDescriptor m_X0_start.1.desc).map (fun d => d.parameters.length) = some 0 := by decide +kernel
theorem lk_X7_44 : zLV RX7 44 m_X0_start 0 := ⟨rfl, gw_in 648 (by decide +kernel) rfl, wms_X0_start, wmt_X0_start, wi_X0, wm_X0_start, wmd_X0_start, by decide⟩
theorem lk_X7_47 : zLS RX7 47 m_J9_min_7cf53 2 := ⟨rfl, gw_in 660 (by decide +kernel) rfl, wms_J9_min_7cf53, wi_J9, wm_J9_min_7cf53, wmd_J9_min_7cf53, by decide⟩
theorem lk_X7_53 : zLS RX7 53 m_J9_max_7cf53 2 := ⟨rfl, gw_in 661 (by decide +kernel) rfl, wms_J9_max_7cf53, wi_J9, wm_J9_max_7cf53, wmd_J9_max_7cf53, by decide⟩
theorem lk_X7_62 : zLV RX7 62 m_X6_clear 0 := ⟨rfl, gw_in 662 (by decide +kernel) rfl, wms_X6_clear, wmt_X6_clear, wi_X6, wm_X6_clear, wmd_X6_clear, by decide⟩
theorem wms_X7_advance : Cond.instanceMethod m_X7_advance.1 ∈ GW := gw_in 665 (by decide +kernel) rfl
theorem wmt_X7_advance : Cond.selects m_X7_advance.1.cls m_X7_advance.1 m_X7_advance.1 ∈ GW := gw_in 3 (by decide +kernel) rfl
theorem wmd_X7_advance : m_X7_advance.1.cls ≠ "java/lang/invoke/MethodHandle" ∧ m_X7_advance.1.cls ≠ "java/lang/invoke/VarHandle" ∧ (parseMethodDescriptor m_X7_advance.1.desc).map (fun d => d.parameters.length) = some 0 := by decide +kernel
theorem lk_X7_72 : zLV RX7 72 m_X7_advance 0 := ⟨rfl, gw_in 663 (by decide +kernel) rfl, wms_X7_advance, wmt_X7_advance, wi_X7, wm_X7_advance, wmd_X7_advance, by decide⟩
theorem wms_X7_takeGroup : Cond.instanceMethod m_X7_takeGroup.1 ∈ GW := gw_in 676 (by decide +kernel) rfl
theorem wmt_X7_takeGroup : Cond.selects m_X7_takeGroup.1.cls m_X7_takeGroup.1 m_X7_takeGroup.1 ∈ GW := gw_in 4 (by decide +kernel) rfl
theorem wmd_X7_takeGroup : m_X7_takeGroup.1.cls ≠ "java/lang/invoke/MethodHandle" ∧ m_X7_takeGroup.1.cls ≠ "java/lang/invoke/VarHandle" ∧ (parseMethodDescriptor m_X7_takeGroup.1.desc).map (fun d => d.parameters.length) = some 0 := by decide +kernel
theorem lk_X7_75 : zLV RX7 75 m_X7_takeGroup 0 := ⟨rfl, gw_in 674 (by decide +kernel) rfl, wms_X7_takeGroup, wmt_X7_takeGroup, wi_X7, wm_X7_takeGroup, wmd_X7_takeGroup, by decide⟩
theorem wms_X7_takeStatement : Cond.instanceMethod m_X7_takeStatement.1 ∈ GW := gw_in 749 (by decide +kernel) rfl
theorem wmt_X7_takeStatement : Cond.selects m_X7_takeStatement.1.cls m_X7_takeStatement.1 m_X7_takeStatement.1 ∈ GW := gw_in 10 (by decide +kernel) rfl
theorem wmd_X7_takeStatement : m_X7_takeStatement.1.cls ≠ "java/lang/invoke/MethodHandle" ∧ m_X7_takeStatement.1.cls ≠ "java/lang/invoke/VarHandle" ∧ (parseMethodDescriptor m_X7_takeStatement.1.desc).map (fun d => d.parameters.length) = some 0 := by decide +kernel
theorem lk_X7_82 : zLV RX7 82 m_X7_takeStatement 0 := ⟨rfl, gw_in 747 (by decide +kernel) rfl, wms_X7_takeStatement, wmt_X7_takeStatement, wi_X7, wm_X7_takeStatement, wmd_X7_takeStatement, by decide⟩
theorem wms_X7_isDigit : Cond.static m_X7_isDigit.1 ∈ GW := gw_in 668 (by decide +kernel) rfl
theorem wmd_X7_isDigit : m_X7_isDigit.1.cls ≠ "java/lang/invoke/MethodHandle" ∧ m_X7_isDigit.1.cls ≠ "java/lang/invoke/VarHandle" ∧ (parseMethodDescriptor m_X7_isDigit.1.desc).map (fun d => d.parameters.length) = some 1 := by decide +kernel
theorem lk_X7_91 : zLS RX7 91 m_X7_isDigit 1 := ⟨rfl, gw_in 667 (by decide +kernel) rfl, wms_X7_isDigit, wi_X7, wm_X7_isDigit, wmd_X7_isDigit, by decide⟩
theorem wms_X7_isLetter : Cond.static m_X7_isLetter.1 ∈ GW := gw_in 671 (by decide +kernel) rfl
theorem wmd_X7_isLetter : m_X7_isLetter.1.cls ≠ "java/lang/invoke/MethodHandle" ∧ m_X7_isLetter.1.cls ≠ "java/lang/invoke/VarHandle" ∧ (parseMethodDescriptor m_X7_isLetter.1.desc).map (fun d => d.parameters.length) = some 1 := by decide +kernel
theorem lk_X7_95 : zLS RX7 95 m_X7_isLetter 1 := ⟨rfl, gw_in 670 (by decide +kernel) rfl, wms_X7_isLetter, wi_X7, wm_X7_isLetter, wmd_X7_isLetter, by decide⟩
theorem lk_X7_99 : zLV RX7 99 m_J0_length_8abf5 0 := ⟨rfl, gw_in 683 (by decide +kernel) rfl, wms_J0_length_8abf5, wmt_J0_length_8abf5, wi_J0, wm_J0_length_8abf5, wmd_J0_length_8abf5, by decide⟩
theorem wms_X8_existing : Cond.instanceMethod m_X8_existing.1 ∈ GW := gw_in 877 (by decide +kernel) rfl
theorem wmt_X8_existing : Cond.selects m_X8_existing.1.cls m_X8_existing.1 m_X8_existing.1 ∈ GW := gw_in 22 (by decide +kernel) rfl
theorem wmd_X8_existing : m_X8_existing.1.cls ≠ "java/lang/invoke/MethodHandle" ∧ m_X8_existing.1.cls ≠ "java/lang/invoke/VarHandle" ∧ (parseMethodDescriptor m_X8_existing.1.desc).map (fun d => d.parameters.length) = some 1 := by decide +kernel
theorem lk_X8_119 : zLV RX8 119 m_X8_existing 1 := ⟨rfl, gw_in 875 (by decide +kernel) rfl, wms_X8_existing, wmt_X8_existing, wi_X8, wm_X8_existing, wmd_X8_existing, by decide⟩
theorem lk_X8_134 : zLV RX8 134 m_X6_holds 1 := ⟨rfl, gw_in 895 (by decide +kernel) rfl, wms_X6_holds, wmt_X6_holds, wi_X6, wm_X6_holds, wmd_X6_holds, by decide⟩
theorem lk_X8_141 : zLV RX8 141 m_X6_at 1 := ⟨rfl, gw_in 914 (by decide +kernel) rfl, wms_X6_at, wmt_X6_at, wi_X6, wm_X6_at, wmd_X6_at, by decide⟩
theorem wms_X8_numberOf : Cond.instanceMethod m_X8_numberOf.1 ∈ GW := gw_in 921 (by decide +kernel) rfl
theorem wmt_X8_numberOf : Cond.selects m_X8_numberOf.1.cls m_X8_numberOf.1 m_X8_numberOf.1 ∈ GW := gw_in 23 (by decide +kernel) rfl
theorem wmd_X8_numberOf : m_X8_numberOf.1.cls ≠ "java/lang/invoke/MethodHandle" ∧ m_X8_numberOf.1.cls ≠ "java/lang/invoke/VarHandle" ∧ (parseMethodDescriptor m_X8_numberOf.1.desc).map (fun d => d.parameters.length) = some 1 := by decide +kernel
theorem lk_X8_144 : zLV RX8 144 m_X8_numberOf 1 := ⟨rfl, gw_in 919 (by decide +kernel) rfl, wms_X8_numberOf, wmt_X8_numberOf, wi_X8, wm_X8_numberOf, wmd_X8_numberOf, by decide⟩
theorem lk_X8_150 : zLV RX8 150 m_X0_priceOf 2 := ⟨rfl, gw_in 931 (by decide +kernel) rfl, wms_X0_priceOf, wmt_X0_priceOf, wi_X0, wm_X0_priceOf, wmd_X0_priceOf, by decide⟩
theorem lk_X8_160 : zLV RX8 160 m_X0_productOfBids 2 := ⟨rfl, gw_in 973 (by decide +kernel) rfl, wms_X0_productOfBids, wmt_X0_productOfBids, wi_X0, wm_X0_productOfBids, wmd_X0_productOfBids, by decide⟩
theorem wms_X8_elementOf : Cond.instanceMethod m_X8_elementOf.1 ∈ GW := gw_in 987 (by decide +kernel) rfl
theorem wmt_X8_elementOf : Cond.selects m_X8_elementOf.1.cls m_X8_elementOf.1 m_X8_elementOf.1 ∈ GW := gw_in 25 (by decide +kernel) rfl
theorem wmd_X8_elementOf : m_X8_elementOf.1.cls ≠ "java/lang/invoke/MethodHandle" ∧ m_X8_elementOf.1.cls ≠ "java/lang/invoke/VarHandle" ∧ (parseMethodDescriptor m_X8_elementOf.1.desc).map (fun d => d.parameters.length) = some 1 := by decide +kernel
theorem lk_X8_164 : zLV RX8 164 m_X8_elementOf 1 := ⟨rfl, gw_in 985 (by decide +kernel) rfl, wms_X8_elementOf, wmt_X8_elementOf, wi_X8, wm_X8_elementOf, wmd_X8_elementOf, by decide⟩
theorem lk_X8_173 : zLV RX8 173 m_X2_period 1 := ⟨rfl, gw_in 990 (by decide +kernel) rfl, wms_X2_period, wmt_X2_period, wi_X2, wm_X2_period, wmd_X2_period, by decide⟩
theorem wms_X3_study : Cond.instanceMethod m_X3_study.1 ∈ GW := gw_in 999 (by decide +kernel) rfl
theorem wmt_X3_study : Cond.selects m_X3_study.1.cls m_X3_study.1 m_X3_study.1 ∈ GW := gw_in 1000 (by decide +kernel) rfl
theorem wmd_X3_study : m_X3_study.1.cls ≠ "java/lang/invoke/MethodHandle" ∧ m_X3_study.1.cls ≠ "java/lang/invoke/VarHandle" ∧ (parseMethodDescriptor m_X3_study.1.desc).map (fun d => d.parameters.length) = some 2 := by decide +kernel
theorem lk_X8_176 : zLV RX8 176 m_X3_study 2 := ⟨rfl, gw_in 998 (by decide +kernel) rfl, wms_X3_study, wmt_X3_study, wi_X3, wm_X3_study, wmd_X3_study, by decide⟩
theorem wms_X7_init : Cond.instanceMethod m_X7_init.1 ∈ GW := gw_in 102 (by decide +kernel) rfl
theorem wmd_X7_init : m_X7_init.1.cls ≠ "java/lang/invoke/MethodHandle" ∧ m_X7_init.1.cls ≠ "java/lang/invoke/VarHandle" ∧ (parseMethodDescriptor m_X7_init.1.desc).map (fun d => d.parameters.length) = some 1 := by decide +kernel
theorem lk_X8_18 : zLI RX8 18 m_X7_init 1 := ⟨rfl, gw_in 101 (by decide +kernel) rfl, wms_X7_init, wi_X7, wm_X7_init, rfl, rfl, wmd_X7_init, by decide⟩
theorem wms_X3_countReached : Cond.instanceMethod m_X3_countReached.1 ∈ GW := gw_in 1040 (by decide +kernel) rfl
theorem wmt_X3_countReached : Cond.selects m_X3_countReached.1.cls m_X3_countReached.1 m_X3_countReached.1 ∈ GW := gw_in 1041 (by decide +kernel) rfl
theorem wmd_X3_countReached : m_X3_countReached.1.cls ≠ "java/lang/invoke/MethodHandle" ∧ m_X3_countReached.1.cls ≠ "java/lang/invoke/VarHandle" ∧ (parseMethodDescriptor m_X3_countReached.1.desc).map (fun d => d.parameters.length) = some 0 := by decide +kernel
theorem lk_X8_180 : zLV RX8 180 m_X3_countReached 0 := ⟨rfl, gw_in 1039 (by decide +kernel) rfl, wms_X3_countReached, wmt_X3_countReached, wi_X3, wm_X3_countReached, wmd_X3_countReached, by decide⟩
theorem wms_X0_winningElement : Cond.instanceMethod m_X0_winningElement.1 ∈ GW := gw_in 1059 (by decide +kernel) rfl
theorem wmt_X0_winningElement : Cond.selects m_X0_winningElement.1.cls m_X0_winningElement.1 m_X0_winningElement.1 ∈ GW := gw_in 1060 (by decide +kernel) rfl
theorem wmd_X0_winningElement : m_X0_winningElement.1.cls ≠ "java/lang/invoke/MethodHandle" ∧ m_X0_winningElement.1.cls ≠ "java/lang/invoke/VarHandle" ∧ (parseMethodDescriptor m_X0_winningElement.1.desc).map (fun d => d.parameters.length) = some 0 := by decide +kernel
theorem lk_X8_189 : zLV RX8 189 m_X0_winningElement 0 := ⟨rfl, gw_in 1058 (by decide +kernel) rfl, wms_X0_winningElement, wmt_X0_winningElement, wi_X0, wm_X0_winningElement, wmd_X0_winningElement, by decide⟩
theorem wms_X3_fewestCardsFor : Cond.instanceMethod m_X3_fewestCardsFor.1 ∈ GW := gw_in 1068 (by decide +kernel) rfl
theorem wmt_X3_fewestCardsFor : Cond.selects m_X3_fewestCardsFor.1.cls m_X3_fewestCardsFor.1 m_X3_fewestCardsFor.1 ∈ GW := gw_in 1069 (by decide +kernel) rfl
theorem wmd_X3_fewestCardsFor : m_X3_fewestCardsFor.1.cls ≠ "java/lang/invoke/MethodHandle" ∧ m_X3_fewestCardsFor.1.cls ≠ "java/lang/invoke/VarHandle" ∧ (parseMethodDescriptor m_X3_fewestCardsFor.1.desc).map (fun d => d.parameters.length) = some 1 := by decide +kernel
theorem lk_X8_192 : zLV RX8 192 m_X3_fewestCardsFor 1 := ⟨rfl, gw_in 1067 (by decide +kernel) rfl, wms_X3_fewestCardsFor, wmt_X3_fewestCardsFor, wi_X3, wm_X3_fewestCardsFor, wmd_X3_fewestCardsFor, by decide⟩
theorem wms_X8_bidderInTurn : Cond.instanceMethod m_X8_bidderInTurn.1 ∈ GW := gw_in 1082 (by decide +kernel) rfl
theorem wmt_X8_bidderInTurn : Cond.selects m_X8_bidderInTurn.1.cls m_X8_bidderInTurn.1 m_X8_bidderInTurn.1 ∈ GW := gw_in 32 (by decide +kernel) rfl
theorem wmd_X8_bidderInTurn : m_X8_bidderInTurn.1.cls ≠ "java/lang/invoke/MethodHandle" ∧ m_X8_bidderInTurn.1.cls ≠ "java/lang/invoke/VarHandle" ∧ (parseMethodDescriptor m_X8_bidderInTurn.1.desc).map (fun d => d.parameters.length) = some 0 := by decide +kernel
theorem lk_X8_202 : zLV RX8 202 m_X8_bidderInTurn 0 := ⟨rfl, gw_in 1080 (by decide +kernel) rfl, wms_X8_bidderInTurn, wmt_X8_bidderInTurn, wi_X8, wm_X8_bidderInTurn, wmd_X8_bidderInTurn, by decide⟩
theorem wms_X0_playCard : Cond.instanceMethod m_X0_playCard.1 ∈ GW := gw_in 1105 (by decide +kernel) rfl
theorem wmt_X0_playCard : Cond.selects m_X0_playCard.1.cls m_X0_playCard.1 m_X0_playCard.1 ∈ GW := gw_in 1106 (by decide +kernel) rfl
theorem wmd_X0_playCard : m_X0_playCard.1.cls ≠ "java/lang/invoke/MethodHandle" ∧ m_X0_playCard.1.cls ≠ "java/lang/invoke/VarHandle" ∧ (parseMethodDescriptor m_X0_playCard.1.desc).map (fun d => d.parameters.length) = some 1 := by decide +kernel
theorem lk_X8_206 : zLV RX8 206 m_X0_playCard 1 := ⟨rfl, gw_in 1104 (by decide +kernel) rfl, wms_X0_playCard, wmt_X0_playCard, wi_X0, wm_X0_playCard, wmd_X0_playCard, by decide⟩
theorem wms_X0_cancelBid : Cond.instanceMethod m_X0_cancelBid.1 ∈ GW := gw_in 1148 (by decide +kernel) rfl
theorem wmt_X0_cancelBid : Cond.selects m_X0_cancelBid.1.cls m_X0_cancelBid.1 m_X0_cancelBid.1 ∈ GW := gw_in 1149 (by decide +kernel) rfl
theorem wmd_X0_cancelBid : m_X0_cancelBid.1.cls ≠ "java/lang/invoke/MethodHandle" ∧ m_X0_cancelBid.1.cls ≠ "java/lang/invoke/VarHandle" ∧ (parseMethodDescriptor m_X0_cancelBid.1.desc).map (fun d => d.parameters.length) = some 2 := by decide +kernel
theorem lk_X8_209 : zLV RX8 209 m_X0_cancelBid 2 := ⟨rfl, gw_in 1147 (by decide +kernel) rfl, wms_X0_cancelBid, wmt_X0_cancelBid, wi_X0, wm_X0_cancelBid, wmd_X0_cancelBid, by decide⟩
theorem wms_X0_passTurn : Cond.instanceMethod m_X0_passTurn.1 ∈ GW := gw_in 1160 (by decide +kernel) rfl
theorem wmt_X0_passTurn : Cond.selects m_X0_passTurn.1.cls m_X0_passTurn.1 m_X0_passTurn.1 ∈ GW := gw_in 1161 (by decide +kernel) rfl
theorem wmd_X0_passTurn : m_X0_passTurn.1.cls ≠ "java/lang/invoke/MethodHandle" ∧ m_X0_passTurn.1.cls ≠ "java/lang/invoke/VarHandle" ∧ (parseMethodDescriptor m_X0_passTurn.1.desc).map (fun d => d.parameters.length) = some 0 := by decide +kernel
theorem lk_X8_215 : zLV RX8 215 m_X0_passTurn 0 := ⟨rfl, gw_in 1159 (by decide +kernel) rfl, wms_X0_passTurn, wmt_X0_passTurn, wi_X0, wm_X0_passTurn, wmd_X0_passTurn, by decide⟩
theorem lk_X8_218 : zLV RX8 218 m_X6_isFull 0 := ⟨rfl, gw_in 1170 (by decide +kernel) rfl, wms_X6_isFull, wmt_X6_isFull, wi_X6, wm_X6_isFull, wmd_X6_isFull, by decide⟩
theorem lk_X8_221 : zLV RX8 221 m_X1_takeCard 2 := ⟨rfl, gw_in 1171 (by decide +kernel) rfl, wms_X1_takeCard, wmt_X1_takeCard, wi_X1, wm_X1_takeCard, wmd_X1_takeCard, by decide⟩
theorem lk_X8_225 : zLV RX8 225 m_X1_dropCard 1 := ⟨rfl, gw_in 1179 (by decide +kernel) rfl, wms_X1_dropCard, wmt_X1_dropCard, wi_X1, wm_X1_dropCard, wmd_X1_dropCard, by decide⟩
theorem wms_X4_size : Cond.instanceMethod m_X4_size.1 ∈ GW := gw_in 354 (by decide +kernel) rfl
theorem wmt_X4_size : Cond.selects m_X4_size.1.cls m_X4_size.1 m_X4_size.1 ∈ GW := gw_in 355 (by decide +kernel) rfl
theorem wmd_X4_size : m_X4_size.1.cls ≠ "java/lang/invoke/MethodHandle" ∧ m_X4_size.1.cls ≠ "java/lang/invoke/VarHandle" ∧ (parseMethodDescriptor m_X4_size.1.desc).map (fun d => d.parameters.length) = some 0 := by decide +kernel
theorem lk_X8_228 : zLV RX8 228 m_X4_size 0 := ⟨rfl, gw_in 353 (by decide +kernel) rfl, wms_X4_size, wmt_X4_size, wi_X4, wm_X4_size, wmd_X4_size, by decide⟩
theorem wms_X4_bringBack : Cond.instanceMethod m_X4_bringBack.1 ∈ GW := gw_in 358 (by decide +kernel) rfl
theorem wmt_X4_bringBack : Cond.selects m_X4_bringBack.1.cls m_X4_bringBack.1 m_X4_bringBack.1 ∈ GW := gw_in 359 (by decide +kernel) rfl
theorem wmd_X4_bringBack : m_X4_bringBack.1.cls ≠ "java/lang/invoke/MethodHandle" ∧ m_X4_bringBack.1.cls ≠ "java/lang/invoke/VarHandle" ∧ (parseMethodDescriptor m_X4_bringBack.1.desc).map (fun d => d.parameters.length) = some 1 := by decide +kernel
theorem lk_X8_229 : zLV RX8 229 m_X4_bringBack 1 := ⟨rfl, gw_in 357 (by decide +kernel) rfl, wms_X4_bringBack, wmt_X4_bringBack, wi_X4, wm_X4_bringBack, wmd_X4_bringBack, by decide⟩
theorem lk_X8_234 : zLV RX8 234 m_X8_state 1 := ⟨rfl, gw_in 1502 (by decide +kernel) rfl, wms_X8_state, wmt_X8_state, wi_X8, wm_X8_state, wmd_X8_state, by decide⟩
theorem wms_X8_withPlayer : Cond.instanceMethod m_X8_withPlayer.1 ∈ GW := gw_in 1508 (by decide +kernel) rfl
theorem wmt_X8_withPlayer : Cond.selects m_X8_withPlayer.1.cls m_X8_withPlayer.1 m_X8_withPlayer.1 ∈ GW := gw_in 36 (by decide +kernel) rfl
theorem wmd_X8_withPlayer : m_X8_withPlayer.1.cls ≠ "java/lang/invoke/MethodHandle" ∧ m_X8_withPlayer.1.cls ≠ "java/lang/invoke/VarHandle" ∧ (parseMethodDescriptor m_X8_withPlayer.1.desc).map (fun d => d.parameters.length) = some 2 := by decide +kernel
theorem lk_X8_237 : zLV RX8 237 m_X8_withPlayer 2 := ⟨rfl, gw_in 1506 (by decide +kernel) rfl, wms_X8_withPlayer, wmt_X8_withPlayer, wi_X8, wm_X8_withPlayer, wmd_X8_withPlayer, by decide⟩
theorem lk_X8_241 : zLV RX8 241 m_X8_bid 2 := ⟨rfl, gw_in 1515 (by decide +kernel) rfl, wms_X8_bid, wmt_X8_bid, wi_X8, wm_X8_bid, wmd_X8_bid, by decide⟩
theorem lk_X8_244 : zLV RX8 244 m_X8_product 0 := ⟨rfl, gw_in 1519 (by decide +kernel) rfl, wms_X8_product, wmt_X8_product, wi_X8, wm_X8_product, wmd_X8_product, by decide⟩
theorem lk_X8_247 : zLV RX8 247 m_X8_player 2 := ⟨rfl, gw_in 1510 (by decide +kernel) rfl, wms_X8_player, wmt_X8_player, wi_X8, wm_X8_player, wmd_X8_player, by decide⟩
theorem lk_X8_250 : zLV RX8 250 m_X8_card 3 := ⟨rfl, gw_in 1514 (by decide +kernel) rfl, wms_X8_card, wmt_X8_card, wi_X8, wm_X8_card, wmd_X8_card, by decide⟩
theorem lk_X8_254 : zLV RX8 254 m_X0_bidder 1 := ⟨rfl, gw_in 879 (by decide +kernel) rfl, wms_X0_bidder, wmt_X0_bidder, wi_X0, wm_X0_bidder, wmd_X0_bidder, by decide⟩
theorem lk_X8_260 : zLV RX8 260 m_X2_fromNumber 2 := ⟨rfl, gw_in 989 (by decide +kernel) rfl, wms_X2_fromNumber, wmt_X2_fromNumber, wi_X2, wm_X2_fromNumber, wmd_X2_fromNumber, by decide⟩
theorem wms_X2_toNumber : Cond.instanceMethod m_X2_toNumber.1 ∈ GW := gw_in 924 (by decide +kernel) rfl
theorem wmt_X2_toNumber : Cond.selects m_X2_toNumber.1.cls m_X2_toNumber.1 m_X2_toNumber.1 ∈ GW := gw_in 925 (by decide +kernel) rfl
theorem wmd_X2_toNumber : m_X2_toNumber.1.cls ≠ "java/lang/invoke/MethodHandle" ∧ m_X2_toNumber.1.cls ≠ "java/lang/invoke/VarHandle" ∧ (parseMethodDescriptor m_X2_toNumber.1.desc).map (fun d => d.parameters.length) = some 2 := by decide +kernel
theorem lk_X8_263 : zLV RX8 263 m_X2_toNumber 2 := ⟨rfl, gw_in 923 (by decide +kernel) rfl, wms_X2_toNumber, wmt_X2_toNumber, wi_X2, wm_X2_toNumber, wmd_X2_toNumber, by decide⟩
theorem lk_X8_27 : zLI RX8 27 m_X0_init 1 := ⟨rfl, gw_in 279 (by decide +kernel) rfl, wms_X0_init, wi_X0, wm_X0_init, rfl, rfl, wmd_X0_init, by decide⟩
theorem wms_X4_init : Cond.instanceMethod m_X4_init.1 ∈ GW := gw_in 283 (by decide +kernel) rfl
theorem wmd_X4_init : m_X4_init.1.cls ≠ "java/lang/invoke/MethodHandle" ∧ m_X4_init.1.cls ≠ "java/lang/invoke/VarHandle" ∧ (parseMethodDescriptor m_X4_init.1.desc).map (fun d => d.parameters.length) = some 1 := by decide +kernel
theorem lk_X8_34 : zLI RX8 34 m_X4_init 1 := ⟨rfl, gw_in 282 (by decide +kernel) rfl, wms_X4_init, wi_X4, wm_X4_init, rfl, rfl, wmd_X4_init, by decide⟩
theorem wms_X3_init : Cond.instanceMethod m_X3_init.1 ∈ GW := gw_in 302 (by decide +kernel) rfl
theorem wmd_X3_init : m_X3_init.1.cls ≠ "java/lang/invoke/MethodHandle" ∧ m_X3_init.1.cls ≠ "java/lang/invoke/VarHandle" ∧ (parseMethodDescriptor m_X3_init.1.desc).map (fun d => d.parameters.length) = some 1 := by decide +kernel
theorem lk_X8_41 : zLI RX8 41 m_X3_init 1 := ⟨rfl, gw_in 301 (by decide +kernel) rfl, wms_X3_init, wi_X3, wm_X3_init, rfl, rfl, wmd_X3_init, by decide⟩
theorem wms_X7_hasRoomForFiveWords : Cond.instanceMethod m_X7_hasRoomForFiveWords.1 ∈ GW := gw_in 1212 (by decide +kernel) rfl
theorem wmt_X7_hasRoomForFiveWords : Cond.selects m_X7_hasRoomForFiveWords.1.cls m_X7_hasRoomForFiveWords.1 m_X7_hasRoomForFiveWords.1 ∈ GW := gw_in 1213 (by decide +kernel) rfl
theorem wmd_X7_hasRoomForFiveWords : m_X7_hasRoomForFiveWords.1.cls ≠ "java/lang/invoke/MethodHandle" ∧ m_X7_hasRoomForFiveWords.1.cls ≠ "java/lang/invoke/VarHandle" ∧ (parseMethodDescriptor m_X7_hasRoomForFiveWords.1.desc).map (fun d => d.parameters.length) = some 0 := by decide +kernel
theorem lk_X8_50 : zLV RX8 50 m_X7_hasRoomForFiveWords 0 := ⟨rfl, gw_in 1211 (by decide +kernel) rfl, wms_X7_hasRoomForFiveWords, wmt_X7_hasRoomForFiveWords, wi_X7, wm_X7_hasRoomForFiveWords, wmd_X7_hasRoomForFiveWords, by decide⟩
theorem wms_X7_addWord : Cond.instanceMethod m_X7_addWord.1 ∈ GW := gw_in 1216 (by decide +kernel) rfl
theorem wmt_X7_addWord : Cond.selects m_X7_addWord.1.cls m_X7_addWord.1 m_X7_addWord.1 ∈ GW := gw_in 1217 (by decide +kernel) rfl
theorem wmd_X7_addWord : m_X7_addWord.1.cls ≠ "java/lang/invoke/MethodHandle" ∧ m_X7_addWord.1.cls ≠ "java/lang/invoke/VarHandle" ∧ (parseMethodDescriptor m_X7_addWord.1.desc).map (fun d => d.parameters.length) = some 1 := by decide +kernel
theorem lk_X8_54 : zLV RX8 54 m_X7_addWord 1 := ⟨rfl, gw_in 1215 (by decide +kernel) rfl, wms_X7_addWord, wmt_X7_addWord, wi_X7, wm_X7_addWord, wmd_X7_addWord, by decide⟩
theorem wms_X7_textLength : Cond.instanceMethod m_X7_textLength.1 ∈ GW := gw_in 576 (by decide +kernel) rfl
theorem wmt_X7_textLength : Cond.selects m_X7_textLength.1.cls m_X7_textLength.1 m_X7_textLength.1 ∈ GW := gw_in 577 (by decide +kernel) rfl
theorem wmd_X7_textLength : m_X7_textLength.1.cls ≠ "java/lang/invoke/MethodHandle" ∧ m_X7_textLength.1.cls ≠ "java/lang/invoke/VarHandle" ∧ (parseMethodDescriptor m_X7_textLength.1.desc).map (fun d => d.parameters.length) = some 0 := by decide +kernel
theorem lk_X8_58 : zLV RX8 58 m_X7_textLength 0 := ⟨rfl, gw_in 575 (by decide +kernel) rfl, wms_X7_textLength, wmt_X7_textLength, wi_X7, wm_X7_textLength, wmd_X7_textLength, by decide⟩
theorem wms_X7_read : Cond.instanceMethod m_X7_read.1 ∈ GW := gw_in 645 (by decide +kernel) rfl
theorem wmt_X7_read : Cond.selects m_X7_read.1.cls m_X7_read.1 m_X7_read.1 ∈ GW := gw_in 646 (by decide +kernel) rfl
theorem wmd_X7_read : m_X7_read.1.cls ≠ "java/lang/invoke/MethodHandle" ∧ m_X7_read.1.cls ≠ "java/lang/invoke/VarHandle" ∧ (parseMethodDescriptor m_X7_read.1.desc).map (fun d => d.parameters.length) = some 1 := by decide +kernel
theorem lk_X8_65 : zLV RX8 65 m_X7_read 1 := ⟨rfl, gw_in 644 (by decide +kernel) rfl, wms_X7_read, wmt_X7_read, wi_X7, wm_X7_read, wmd_X7_read, by decide⟩
theorem wms_X7_errorPlace : Cond.instanceMethod m_X7_errorPlace.1 ∈ GW := gw_in 852 (by decide +kernel) rfl
theorem wmt_X7_errorPlace : Cond.selects m_X7_errorPlace.1.cls m_X7_errorPlace.1 m_X7_errorPlace.1 ∈ GW := gw_in 853 (by decide +kernel) rfl
theorem wmd_X7_errorPlace : m_X7_errorPlace.1.cls ≠ "java/lang/invoke/MethodHandle" ∧ m_X7_errorPlace.1.cls ≠ "java/lang/invoke/VarHandle" ∧ (parseMethodDescriptor m_X7_errorPlace.1.desc).map (fun d => d.parameters.length) = some 0 := by decide +kernel
theorem lk_X8_69 : zLV RX8 69 m_X7_errorPlace 0 := ⟨rfl, gw_in 851 (by decide +kernel) rfl, wms_X7_errorPlace, wmt_X7_errorPlace, wi_X7, wm_X7_errorPlace, wmd_X7_errorPlace, by decide⟩
theorem wms_X4_remember : Cond.instanceMethod m_X4_remember.1 ∈ GW := gw_in 856 (by decide +kernel) rfl
theorem wmt_X4_remember : Cond.selects m_X4_remember.1.cls m_X4_remember.1 m_X4_remember.1 ∈ GW := gw_in 857 (by decide +kernel) rfl
theorem wmd_X4_remember : m_X4_remember.1.cls ≠ "java/lang/invoke/MethodHandle" ∧ m_X4_remember.1.cls ≠ "java/lang/invoke/VarHandle" ∧ (parseMethodDescriptor m_X4_remember.1.desc).map (fun d => d.parameters.length) = some 1 := by decide +kernel
theorem lk_X8_72 : zLV RX8 72 m_X4_remember 1 := ⟨rfl, gw_in 855 (by decide +kernel) rfl, wms_X4_remember, wmt_X4_remember, wi_X4, wm_X4_remember, wmd_X4_remember, by decide⟩
theorem wms_X7_result : Cond.instanceMethod m_X7_result.1 ∈ GW := gw_in 860 (by decide +kernel) rfl
theorem wmt_X7_result : Cond.selects m_X7_result.1.cls m_X7_result.1 m_X7_result.1 ∈ GW := gw_in 861 (by decide +kernel) rfl
theorem wmd_X7_result : m_X7_result.1.cls ≠ "java/lang/invoke/MethodHandle" ∧ m_X7_result.1.cls ≠ "java/lang/invoke/VarHandle" ∧ (parseMethodDescriptor m_X7_result.1.desc).map (fun d => d.parameters.length) = some 0 := by decide +kernel
theorem lk_X8_76 : zLV RX8 76 m_X7_result 0 := ⟨rfl, gw_in 859 (by decide +kernel) rfl, wms_X7_result, wmt_X7_result, wi_X7, wm_X7_result, wmd_X7_result, by decide⟩
theorem lk_X8_80 : zLV RX8 80 m_X0_copyFrom 1 := ⟨rfl, gw_in 863 (by decide +kernel) rfl, wms_X0_copyFrom, wmt_X0_copyFrom, wi_X0, wm_X0_copyFrom, wmd_X0_copyFrom, by decide⟩
theorem wms_X2_init : Cond.instanceMethod m_X2_init.1 ∈ GW := gw_in 82 (by decide +kernel) rfl
theorem wmd_X2_init : m_X2_init.1.cls ≠ "java/lang/invoke/MethodHandle" ∧ m_X2_init.1.cls ≠ "java/lang/invoke/VarHandle" ∧ (parseMethodDescriptor m_X2_init.1.desc).map (fun d => d.parameters.length) = some 0 := by decide +kernel
theorem lk_X8_9 : zLI RX8 9 m_X2_init 0 := ⟨rfl, gw_in 81 (by decide +kernel) rfl, wms_X2_init, wi_X2, wm_X2_init, rfl, rfl, wmd_X2_init, by decide⟩
theorem lk_X8_93 : zLV RX8 93 m_X6_size 0 := ⟨rfl, gw_in 972 (by decide +kernel) rfl, wms_X6_size, wmt_X6_size, wi_X6, wm_X6_size, wmd_X6_size, by decide⟩
theorem wms_X0_isOver : Cond.instanceMethod m_X0_isOver.1 ∈ GW := gw_in 1085 (by decide +kernel) rfl
theorem wmt_X0_isOver : Cond.selects m_X0_isOver.1.cls m_X0_isOver.1 m_X0_isOver.1 ∈ GW := gw_in 1086 (by decide +kernel) rfl
theorem wmd_X0_isOver : m_X0_isOver.1.cls ≠ "java/lang/invoke/MethodHandle" ∧ m_X0_isOver.1.cls ≠ "java/lang/invoke/VarHandle" ∧ (parseMethodDescriptor m_X0_isOver.1.desc).map (fun d => d.parameters.length) = some 0 := by decide +kernel
theorem lk_X8_98 : zLV RX8 98 m_X0_isOver 0 := ⟨rfl, gw_in 1084 (by decide +kernel) rfl, wms_X0_isOver, wmt_X0_isOver, wi_X0, wm_X0_isOver, wmd_X0_isOver, by decide⟩
theorem wj_J0_9 : Cond.fieldLink RJ0 9 "java/lang/String" "value" "[B" ∈ GW := gw_in 1470 (by decide +kernel) rfl
theorem wj_J0_15 : Cond.fieldLink RJ0 15 "java/lang/String" "coder" "B" ∈ GW := gw_in 1471 (by decide +kernel) rfl
theorem wj_J0_38 : Cond.fieldLink RJ0 38 "java/lang/String" "COMPACT_STRINGS" "Z" ∈ GW := gw_in 691 (by decide +kernel) rfl
theorem wj_J0_1053 : Cond.fieldLink RJ0 1053 "jdk/internal/util/Preconditions" "SIOOBE_FORMATTER" "Ljava/util/function/BiFunction;" ∈ GW := gw_in 707 (by decide +kernel) rfl
theorem wl_J0_212 : Cond.methodLink RJ0 212 arraycopyName ∈ GW := gw_in 1378 (by decide +kernel) rfl

def wx (x : Int64) : Nat := x.toUInt64.toNat
theorem wx_lt (x : Int64) : wx x < 2 ^ 64 := x.toUInt64.toNat_lt
theorem wx_inj {x y : Int64} (h : wx x = wx y) : x = y := by
  have : x.toUInt64 = y.toUInt64 := UInt64.toNat.inj h
  have h2 : x.toUInt64.toInt64 = y.toUInt64.toInt64 := by rw [this]
  simpa using h2
theorem wx_or (x y : Int64) : wx (x ||| y) = wx x ||| wx y := by
  unfold wx
  rw [Int64.toUInt64_or, UInt64.toNat_or]
theorem wx_and (x y : Int64) : wx (x &&& y) = wx x &&& wx y := by
  unfold wx
  rw [Int64.toUInt64_and, UInt64.toNat_and]
theorem wx_xor (x y : Int64) : wx (x ^^^ y) = wx x ^^^ wx y := by
  unfold wx
  rw [Int64.toUInt64_xor, UInt64.toNat_xor]
theorem wx_0 : wx 0 = 0 := by decide
theorem wx_eq0 (x : Int64) : x = 0 ↔ wx x = 0 := ⟨fun h => by rw [h, wx_0], fun h => wx_inj (h.trans wx_0.symm)⟩
theorem wx_neg (x : Int64) : wx (-x) = (2 ^ 64 - wx x) % 2 ^ 64 := by
  unfold wx
  rw [Int64.toUInt64_neg, UInt64.toNat_neg]
theorem wx_sub1 (x : Int64) (h : 1 ≤ wx x) : wx (x - 1) = wx x - 1 := by
  unfold wx at *
  rw [Int64.toUInt64_sub, UInt64.toNat_sub]
  have h1 : (Int64.toUInt64 1).toNat = 1 := by decide
  rw [h1]
  have := x.toUInt64.toNat_lt
  omega
def pw (k : Nat) : Int64 := (1 : Int64) <<< ((nI k).toInt64 &&& 63)
theorem pw_all : (List.range 64).all (fun k => decide (wx (pw k) = 2 ^ k)) = true := by decide +kernel
theorem wx_pw {k : Nat} (hk : k < 64) : wx (pw k) = 2 ^ k := of_decide_eq_true (all_of pw_all hk)
theorem sh_all : (List.range 64).all (fun k => decide (((nI k).toInt64.toUInt64 &&& Int64.toUInt64 63).toNat = k)) = true := by decide +kernel
theorem tb_get {x : Int64} {k : Nat} (hk : k < 64) : ((x.toUInt64 >>> ((nI k).toInt64.toUInt64 &&& Int64.toUInt64 63)).toInt64 &&& (1 : Int64) = 0) ↔ (wx x).testBit k = false := by
  rw [wx_eq0, wx_and]
  have e1 : wx 1 = 1 := by decide
  have e2 : wx (x.toUInt64 >>> ((nI k).toInt64.toUInt64 &&& Int64.toUInt64 63)).toInt64 = wx x >>> k := by
    unfold wx
    rw [UInt64.toUInt64_toInt64, UInt64.toNat_shiftRight]
    have : ((nI k).toInt64.toUInt64 &&& Int64.toUInt64 63).toNat = k := of_decide_eq_true (all_of sh_all hk)
    rw [this, Nat.mod_eq_of_lt hk]
  rw [e1, e2, Nat.and_one_is_mod, Nat.testBit, Nat.and_comm, Nat.and_one_is_mod]
  have := Nat.mod_two_eq_zero_or_one (wx x >>> k)
  constructor
  · intro h; rw [h]; rfl
  · intro h
    rcases this with h1 | h1
    · exact h1
    · rw [h1] at h; exact absurd h (by decide)
theorem low_bit : ∀ (m X : Nat), X ≠ 0 → X < 2 ^ m → ∃ k, k < m ∧ X.testBit k = true ∧ (∀ j, j < k → X.testBit j = false) ∧ X &&& (2 ^ m - X) = 2 ^ k
  | 0, X, h0, hX => absurd hX (by simp; omega)
  | m + 1, X, h0, hX => by
    by_cases hp : X % 2 = 1
    · refine ⟨0, by omega, by rw [Nat.testBit_zero]; simp [hp], fun j hj => absurd hj (Nat.not_lt_zero j), ?_⟩
      apply Nat.eq_of_testBit_eq
      intro i
      rw [Nat.testBit_and]
      have e1 : 2 ^ (m + 1) - X = 2 ^ (m + 1) - ((X - 1) + 1) := by omega
      rw [e1, Nat.testBit_two_pow_sub_succ (by omega)]
      cases i with
      | zero =>
        rw [Nat.testBit_zero, Nat.testBit_zero]
        have : (X - 1) % 2 = 0 := by omega
        simp [hp, this]
      | succ i =>
        rw [Nat.testBit_succ, Nat.testBit_succ]
        have : (X - 1) / 2 = X / 2 := by omega
        rw [this]
        have e0 : (2 ^ 0).testBit (i + 1) = false := by
          rw [Nat.testBit_succ]
          simp
        rw [e0]
        cases (X / 2).testBit i <;> simp
    · have hX2 : X / 2 < 2 ^ m := by rw [Nat.pow_succ] at hX; omega
      obtain ⟨k, k1, k2, k3, k4⟩ := low_bit m (X / 2) (by omega) hX2
      refine ⟨k + 1, by omega, by rw [Nat.testBit_succ]; exact k2, ?_, ?_⟩
      · intro j hj
        cases j with
        | zero => rw [Nat.testBit_zero]; simp; omega
        | succ j => rw [Nat.testBit_succ]; exact k3 j (by omega)
      · apply Nat.eq_of_testBit_eq
        intro i
        rw [Nat.testBit_and]
        have e1 : (2 ^ (m + 1) - X) / 2 = 2 ^ m - X / 2 := by rw [Nat.pow_succ]; omega
        cases i with
        | zero =>
          rw [Nat.testBit_zero, Nat.testBit_zero, Nat.testBit_zero]
          have : X % 2 = 0 := by omega
          have h2 : 2 ^ (k + 1) % 2 = 0 := by rw [Nat.pow_succ]; omega
          simp [this, h2]
        | succ i =>
          rw [Nat.testBit_succ, Nat.testBit_succ, Nat.testBit_succ, e1, ← Nat.testBit_and, k4]
          have : 2 ^ (k + 1) / 2 = 2 ^ k := by rw [Nat.pow_succ]; omega
          rw [this]
theorem low64 {x : Int64} (hx : x ≠ 0) : ∃ k, k < 64 ∧ (wx x).testBit k = true ∧ (∀ j, j < k → (wx x).testBit j = false) ∧ x &&& (-x) = pw k := by
  have h0 : wx x ≠ 0 := fun h => hx ((wx_eq0 x).mpr h)
  obtain ⟨k, k1, k2, k3, k4⟩ := low_bit 64 (wx x) h0 (wx_lt x)
  refine ⟨k, k1, k2, k3, wx_inj ?_⟩
  rw [wx_and, wx_neg, wx_pw k1, Nat.mod_eq_of_lt (by omega)]
  exact k4
theorem clr64 {x : Int64} {k : Nat} (hk : k < 64) (j : Nat) : (wx (x ^^^ pw k)).testBit j = ((wx x).testBit j ^^ decide (k = j)) := by
  rw [wx_xor, wx_pw hk, Nat.testBit_xor, Nat.testBit_two_pow]
theorem set64 {x : Int64} {k : Nat} (hk : k < 64) (j : Nat) : (wx (x ||| pw k)).testBit j = ((wx x).testBit j || decide (k = j)) := by
  rw [wx_or, wx_pw hk, Nat.testBit_or, Nat.testBit_two_pow]
def bcL (x : Int64) : Int32 := ((f_J13_bitCount_95d88 0 x (0, 0, fun _ => none)).map (fun q => q.1)).getD 0
theorem bcL_all : (List.range 64).all (fun k => decide (bcL (pw k - 1) = nI k)) = true := by decide +kernel
theorem x_bcL {N : Nat} {h : zH} {k : Nat} (hk : k < 64) : f_J13_bitCount_95d88 N (pw k - 1) h = some (nI k, h) := by
  have e1 : f_J13_bitCount_95d88 N (pw k - 1) h = some (bcL (pw k - 1), h) := rfl
  rw [e1, of_decide_eq_true (all_of bcL_all hk)]
def bitN (m c : Nat) : Nat := m / 2 ^ c % 2
def orN (m c : Nat) : Nat := if bitN m c = 1 then m else m + 2 ^ c
theorem mb_all : (List.range 2048).all (fun x => decide ((nI (x / 8) >>> (nI (x % 8) &&& 31)) &&& 1 = nI (bitN (x / 8) (x % 8)))) = true := by decide +kernel
theorem or_all : (List.range 2048).all (fun x => decide (nI (x / 8) ||| ((1 : Int32) <<< (nI (x % 8) &&& 31)) = nI (orN (x / 8) (x % 8)))) = true := by decide +kernel
theorem xr_all : (List.range 2048).all (fun x => decide (bitN (x / 8) (x % 8) = 1 → nI (x / 8) ^^^ ((1 : Int32) <<< (nI (x % 8) &&& 31)) = nI (x / 8 - 2 ^ (x % 8)))) = true := by decide +kernel
theorem sl_all : (List.range 9).all (fun k => decide ((1 : Int32) <<< (nI k &&& 31) = nI (2 ^ k))) = true := by decide +kernel
theorem or_lt : (List.range 2048).all (fun x => decide (orN (x / 8) (x % 8) < 256)) = true := by decide +kernel
theorem i_bit {m c : Nat} (hm : m < 256) (hc : c < 8) : (nI m >>> (nI c &&& 31)) &&& 1 = nI (bitN m c) := by
  have := of_decide_eq_true (all_of mb_all (show m * 8 + c < 2048 by omega))
  rw [show (m * 8 + c) / 8 = m by omega, show (m * 8 + c) % 8 = c by omega] at this
  exact this
theorem i_or {m c : Nat} (hm : m < 256) (hc : c < 8) : nI m ||| ((1 : Int32) <<< (nI c &&& 31)) = nI (orN m c) := by
  have := of_decide_eq_true (all_of or_all (show m * 8 + c < 2048 by omega))
  rw [show (m * 8 + c) / 8 = m by omega, show (m * 8 + c) % 8 = c by omega] at this
  exact this
theorem i_xor {m c : Nat} (hm : m < 256) (hc : c < 8) (hb : bitN m c = 1) : nI m ^^^ ((1 : Int32) <<< (nI c &&& 31)) = nI (m - 2 ^ c) := by
  have := of_decide_eq_true (all_of xr_all (show m * 8 + c < 2048 by omega))
  rw [show (m * 8 + c) / 8 = m by omega, show (m * 8 + c) % 8 = c by omega] at this
  exact this hb
theorem i_shl {k : Nat} (hk : k ≤ 8) : (1 : Int32) <<< (nI k &&& 31) = nI (2 ^ k) := of_decide_eq_true (all_of sl_all (show k < 9 by omega))
theorem bitN_01 (m c : Nat) : bitN m c = 0 ∨ bitN m c = 1 := by unfold bitN; omega
def bitP (k : Nat) : Bool := (List.range (2 ^ k)).all fun m => (List.range 8).all fun c => decide (bitN m c = 0 → c < k → m + 2 ^ c < 2 ^ k ∧ bitN (m + 2 ^ c) c = 1 ∧ popN (m + 2 ^ c) = popN m + 1 ∧ m + 2 ^ c - 2 ^ c = m) && decide (bitN m c = 1 → 2 ^ c ≤ m ∧ bitN (m - 2 ^ c) c = 0 ∧ c < k ∧ popN m = popN (m - 2 ^ c) + 1) && (List.range 8).all fun e => decide (bitN m c = 0 → e ≠ c → bitN (m + 2 ^ c) e = bitN m e)
theorem bitP_all : (List.range 9).all bitP = true := by decide +kernel
theorem bit_add {k m c : Nat} (hk : k ≤ 8) (hm : m < 2 ^ k) (hc : c < k) (hb : bitN m c = 0) : m + 2 ^ c < 2 ^ k ∧ bitN (m + 2 ^ c) c = 1 ∧ popN (m + 2 ^ c) = popN m + 1 := by
  have h1 := all_of bitP_all (show k < 9 by omega)
  have h2 := all_of (all_of h1 hm) (show c < 8 by omega)
  simp only [Bool.and_eq_true, decide_eq_true_eq] at h2
  obtain ⟨a, b, c', -⟩ := h2.1.1 hb hc
  exact ⟨a, b, c'⟩
theorem bit_sub {k m c : Nat} (hk : k ≤ 8) (hm : m < 2 ^ k) (hc : c < 8) (hb : bitN m c = 1) : 2 ^ c ≤ m ∧ bitN (m - 2 ^ c) c = 0 ∧ c < k ∧ popN m = popN (m - 2 ^ c) + 1 := by
  have h1 := all_of bitP_all (show k < 9 by omega)
  have h2 := all_of (all_of h1 hm) hc
  simp only [Bool.and_eq_true, decide_eq_true_eq] at h2
  exact h2.1.2 hb
theorem bit_other {k m c e : Nat} (hk : k ≤ 8) (hm : m < 2 ^ k) (hc : c < 8) (he : e < 8) (hb : bitN m c = 0) (hne : e ≠ c) : bitN (m + 2 ^ c) e = bitN m e := by
  have h1 := all_of bitP_all (show k < 9 by omega)
  have h2 := all_of (all_of h1 hm) hc
  simp only [Bool.and_eq_true] at h2
  exact of_decide_eq_true (all_of h2.2 he) hb hne
theorem pow2_le {k : Nat} (hk : k ≤ 8) : 2 ^ k ≤ 256 ∧ 1 ≤ 2 ^ k := by
  rcases (show k = 0 ∨ k = 1 ∨ k = 2 ∨ k = 3 ∨ k = 4 ∨ k = 5 ∨ k = 6 ∨ k = 7 ∨ k = 8 by omega) with rfl | rfl | rfl | rfl | rfl | rfl | rfl | rfl | rfl <;> decide

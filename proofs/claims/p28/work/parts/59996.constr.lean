def hC (GG : Nat → Option zE) (b0 : Nat) (c : Nat → Option zE) (len m : Nat) : zH := (b0 + len, m, fun q => if b0 ≤ q ∧ q < b0 + len then c (q - b0) else GG q)
def upC (c : Nat → Option zE) (k : Nat) (e : zE) : Nat → Option zE := fun j => if j = k then some e else c j
theorem upC_eq (c : Nat → Option zE) (k : Nat) (e : zE) : upC c k e k = some e := if_pos rfl
theorem upC_ne {c : Nat → Option zE} {k j : Nat} {e : zE} (h : j ≠ k) : upC c k e j = c j := if_neg h
section M9996
variable {GG : Nat → Option zE} {b0 len m N : Nat} {c : Nat → Option zE}
theorem hC_at {j : Nat} (hj : j < len) : hM (hC GG b0 c len m) (b0 + j) = c j := by
  show (if b0 ≤ b0 + j ∧ b0 + j < b0 + len then c (b0 + j - b0) else GG (b0 + j)) = _
  rw [if_pos (by omega), show b0 + j - b0 = j by omega]
theorem hC_new {e : zE} {k : Nat} : hNew (hC GG b0 c len m) e k = hC GG b0 (upC c len e) (len + 1) (m + k) := by
  refine zH_ext rfl rfl fun q => ?_
  show (if q = b0 + len then some e else if b0 ≤ q ∧ q < b0 + len then c (q - b0) else GG q) = (if b0 ≤ q ∧ q < b0 + (len + 1) then (if q - b0 = len then some e else c (q - b0)) else GG q)
  by_cases h1 : q = b0 + len
  · rw [if_pos h1, if_pos (by omega), if_pos (by omega)]
  · rw [if_neg h1]
    by_cases h2 : b0 ≤ q ∧ q < b0 + len
    · rw [if_pos h2, if_pos (by omega), if_neg (by omega)]
    · rw [if_neg h2, if_neg (by omega)]
theorem hC_put {j : Nat} {e : zE} (hj : j < len) : hPut (hC GG b0 c len m) (b0 + j) e = hC GG b0 (upC c j e) len m := by
  refine zH_ext rfl rfl fun q => ?_
  show (if q = b0 + j then some e else if b0 ≤ q ∧ q < b0 + len then c (q - b0) else GG q) = (if b0 ≤ q ∧ q < b0 + len then (if q - b0 = j then some e else c (q - b0)) else GG q)
  by_cases h1 : q = b0 + j
  · rw [if_pos h1, if_pos (by omega), if_pos (by omega)]
  · rw [if_neg h1]
    by_cases h2 : b0 ≤ q ∧ q < b0 + len
    · rw [if_pos h2, if_pos h2, if_neg (by omega)]
    · rw [if_neg h2, if_neg h2]
theorem nw_ok {n : Nat} (hn : n ≤ 100000) : ¬ nI n < 0 ∧ (nI n).toNatClampNeg ≤ 100000 := ⟨nI_nn (by omega), by rw [nI_clamp (by omega)]; exact hn⟩
theorem hC_nI {n : Nat} (hn : n ≤ 100000) : nwI (hC GG b0 c len m) (nI n) = some (b0 + len, hC GG b0 (upC c len (.inl (0, n, .inl (fun _ => nI 0)))) (len + 1) (m + n)) := by
  unfold nwI
  rw [if_pos (nw_ok hn), nI_clamp (by omega), hC_new]
  rfl
theorem hC_nJ {n : Nat} (hn : n ≤ 100000) : nwJ (hC GG b0 c len m) (nI n) = some (b0 + len, hC GG b0 (upC c len (.inl (1, n, .inr (.inl (fun _ => 0))))) (len + 1) (m + n)) := by
  unfold nwJ
  rw [if_pos (nw_ok hn), nI_clamp (by omega), hC_new]
  rfl
theorem hC_nQ {k n : Nat} (hk : k = 3 ∨ k = 4) (hn : n ≤ 100000) : nwQ k (hC GG b0 c len m) (nI n) = some (b0 + len, hC GG b0 (upC c len (.inl (k, n, .inr (.inr (.inr (.inr (fun _ => none))))))) (len + 1) (m + n)) := by
  replace hk : k = 3 ∨ k = 4 ∨ k = 5 ∨ k = 7 := by omega
  unfold nwQ
  rw [if_pos ⟨hk, nw_ok hn⟩, nI_clamp (by omega), hC_new]
  rfl
theorem hC_nO {k : Nat} {fs : List Value} : nwOb k fs (hC GG b0 c len m) = some (b0 + len, hC GG b0 (upC c len (.inr (k, fs))) (len + 1) (m + fs.length)) := by
  unfold nwOb
  rw [hC_new]
  rfl
theorem hC_pF {j k cl : Nat} {fs : List Value} {v : Value} (hj : j < len) (hc : c j = some (.inr (cl, fs))) (hk : k < fs.length) : pF (hC GG b0 c len m) (b0 + j) cl k v = some (hC GG b0 (upC c j (.inr (cl, fs.set k v))) len m) := by
  rw [pF_of' ((hC_at hj).trans hc) hk, hC_put hj]
theorem hC_gA {j k cl x : Nat} {fs : List Value} (hj : j < len) (hc : c j = some (.inr (cl, fs))) (hx : fs[k]? = some (.ref x)) : gA (hC GG b0 c len m) (b0 + j) cl k = some x := gA_of' ((hC_at hj).trans hc) hx
theorem hC_stI {j n k : Nat} {f : Nat → Int32} {x : Int32} (hj : j < len) (hc : c j = some (.inl (0, n, .inl f))) (hk : k < n) (hn : k < 2 ^ 31) : stI (hC GG b0 c len m) (b0 + j) (nI k) x = some (hC GG b0 (upC c j (.inl (0, n, .inl (upd f k x)))) len m) := by
  rw [stI_of' ((hC_at hj).trans hc) hk hn, hC_put hj]
theorem hC_stQ {j k n i v : Nat} {f : Nat → Option Nat} {fs : List Value} (hj : j < len) (hc : c j = some (.inl (k, n, .inr (.inr (.inr (.inr f)))))) (hk : k = 3 ∨ k = 4) (hv : v < len) (hcv : c v = some (.inr (zqc k, fs))) (hi : i < n) (hn : i < 2 ^ 31) : stQ (hC GG b0 c len m) (b0 + j) (nI i) (b0 + v) = some (hC GG b0 (upC c j (.inl (k, n, .inr (.inr (.inr (.inr (va_up f i (some (b0 + v))))))))) len m) := by
  unfold stQ
  rw [hC_at hj, hc, hC_at hv, hcv]
  have hk : k = 3 ∨ k = 4 ∨ k = 5 ∨ k = 7 := by omega
  show (if (k = 3 ∨ k = 4 ∨ k = 5 ∨ k = 7) ∧ zqc k = zqc k ∧ ¬ nI i < 0 ∧ (nI i).toNatClampNeg < n then some (hPut (hC GG b0 c len m) (b0 + j) (.inl (k, n, .inr (.inr (.inr (.inr (va_up f (nI i).toNatClampNeg (some (b0 + v))))))))) else none) = _
  rw [nI_clamp hn, if_pos ⟨hk, rfl, nI_nn hn, hi⟩, hC_put hj]
/-- a row is made -/
theorem C_row {room : Nat} (hr : room ≤ 100000) (hc : c len = some (.inr (6, [.null, .int (nI 0)]))) : ∃ c', f_X6_init N (b0 + len) (nI room) (hC GG b0 c (len + 1) m) = some (hC GG b0 c' (len + 2) (m + room)) ∧ (∀ j, j < len → c' j = c j) ∧ c' len = some (.inr (6, [.ref (b0 + (len + 1)), .int (nI 0)])) ∧ c' (len + 1) = some (.inl (0, room, .inl (fun _ => nI 0))) := by
  have m1 := x_max (N := N) (x := room) (y := 0) (k := hC GG b0 c (len + 1) m) (by omega) (by omega)
  rw [Nat.max_zero] at m1
  have n1 := hC_nI (GG := GG) (b0 := b0) (c := c) (len := len + 1) (m := m) hr
  have p1 := hC_pF (GG := GG) (b0 := b0) (m := m + room) (len := len + 1 + 1) (j := len) (k := 0) (v := .ref (b0 + (len + 1))) (by omega) (show upC c (len + 1) (.inl (0, room, .inl (fun _ => nI 0))) len = some (.inr (6, [.null, .int (nI 0)])) by rw [upC_ne (by omega)]; exact hc) (by show 0 < 2; omega)
  have p2 := hC_pF (GG := GG) (b0 := b0) (m := m + room) (len := len + 1 + 1) (j := len) (k := 1) (v := .int (nI 0)) (by omega) (upC_eq (upC c (len + 1) (.inl (0, room, .inl (fun _ => nI 0)))) len (.inr (6, [.null, .int (nI 0)].set 0 (.ref (b0 + (len + 1)))))) (by show 1 < 2; omega)
  refine ⟨?cc9, ?eq9, ?rest9⟩
  case eq9 =>
    simp only [f_X6_init, nlit, m1, n1, p1, p2, Option.bind_some]
    rfl
  refine ⟨fun j hj => ?_, upC_eq _ _ _, ?_⟩
  · rw [upC_ne (by omega), upC_ne (by omega), upC_ne (by omega)]
  · rw [upC_ne (by omega), upC_ne (by omega), upC_eq]
/-- a bidder is made -/
theorem C_bidder (hc : c len = some (.inr (1, [.null, .null, .int (nI 0), .int (nI 0)]))) : ∃ c', f_X1_init N (b0 + len) (hC GG b0 c (len + 1) m) = some (hC GG b0 c' (len + 5) (m + 20)) ∧ (∀ j, j < len → c' j = c j) ∧ c' len = some (.inr (1, [.ref (b0 + (len + 1)), .ref (b0 + (len + 3)), .int (nI 0), .int (nI 0)])) ∧ c' (len + 1) = some (.inr (6, [.ref (b0 + (len + 2)), .int (nI 0)])) ∧ c' (len + 2) = some (.inl (0, 8, .inl (fun _ => nI 0))) ∧ c' (len + 3) = some (.inr (6, [.ref (b0 + (len + 4)), .int (nI 0)])) ∧ c' (len + 4) = some (.inl (0, 8, .inl (fun _ => nI 0))) := by
  have n1 := hC_nO (GG := GG) (b0 := b0) (c := c) (len := len + 1) (m := m) (k := 6) (fs := [.null, .int (nI 0)])
  obtain ⟨c1, r1, r2, r3, r4⟩ := C_row (N := N) (GG := GG) (b0 := b0) (len := len + 1) (m := m + 2) (c := upC c (len + 1) (.inr (6, [.null, .int (nI 0)]))) (room := 8) (by omega) (upC_eq _ _ _)
  have k1 : c1 len = some (.inr (1, [.null, .null, .int (nI 0), .int (nI 0)])) := by rw [r2 len (by omega), upC_ne (by omega)]; exact hc
  have p1 := hC_pF (GG := GG) (b0 := b0) (m := m + 2 + 8) (len := len + 1 + 2) (j := len) (k := 0) (v := .ref (b0 + (len + 1))) (by omega) k1 (by show 0 < 4; omega)
  have n2 := hC_nO (GG := GG) (b0 := b0) (c := upC c1 len (.inr (1, [.null, .null, .int (nI 0), .int (nI 0)].set 0 (.ref (b0 + (len + 1)))))) (len := len + 1 + 2) (m := m + 2 + 8) (k := 6) (fs := [.null, .int (nI 0)])
  obtain ⟨c2, s1, s2, s3, s4⟩ := C_row (N := N) (GG := GG) (b0 := b0) (len := len + 1 + 2) (m := m + 2 + 8 + 2) (c := upC (upC c1 len (.inr (1, [.null, .null, .int (nI 0), .int (nI 0)].set 0 (.ref (b0 + (len + 1)))))) (len + 1 + 2) (.inr (6, [.null, .int (nI 0)]))) (room := 8) (by omega) (upC_eq _ _ _)
  have k2 : c2 len = some (.inr (1, [.null, .null, .int (nI 0), .int (nI 0)].set 0 (.ref (b0 + (len + 1))))) := by rw [s2 len (by omega), upC_ne (by omega), upC_eq]
  have p2 := hC_pF (GG := GG) (b0 := b0) (m := m + 2 + 8 + 2 + 8) (len := len + 1 + 2 + 2) (j := len) (k := 1) (v := .ref (b0 + (len + 1 + 2))) (by omega) k2 (by show 1 < 4; omega)
  refine ⟨?cc9, ?eq9, ?rest9⟩
  case eq9 =>
    have e2 : [Value.null, Value.int (nI 0)].length = 2 := rfl
    simp only [e2] at n1 n2
    simp only [f_X1_init, nlit, n1, r1, p1, n2, s1, p2, Option.bind_some]
    rfl
  refine ⟨fun j hj => ?_, upC_eq _ _ _, ?_, ?_, ?_, ?_⟩
  · rw [upC_ne (by omega), s2 j (by omega), upC_ne (by omega), upC_ne (by omega), r2 j (by omega), upC_ne (by omega)]
  · rw [upC_ne (by omega), s2 _ (by omega), upC_ne (by omega), upC_ne (by omega)]; exact r3
  · rw [upC_ne (by omega), s2 _ (by omega), upC_ne (by omega), upC_ne (by omega)]; exact r4
  · rw [upC_ne (by omega)]; exact s3
  · rw [upC_ne (by omega)]; exact s4
end M9996

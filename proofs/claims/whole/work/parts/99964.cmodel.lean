/-! ===== constructors: the model; the start ===== -/
def gArr (a : Nat) : Nat → Option Nat := fun i => if i < 8 then some (a + 1 + i) else none
def upG (c : Nat → Option zE) (len : Nat) (a : Nat) : Nat → Option zE := fun j => if j = len then some (.inl (5, 8, .inr (.inr (.inr (.inr (gArr a)))))) else if len < j ∧ j ≤ len + 8 then some (.inl (0, 1378, .inl (fun _ => nI 0))) else c j
section M99964
variable {b0 len m N g : Nat} {c : Nat → Option zE}
theorem hC_nG : nwG (hC b0 c len m) (nI 8) (nI 1378) = some (b0 + len, hC b0 (upG c len (b0 + len)) (len + 9) (m + 11032)) := by
  unfold nwG
  rw [if_pos ⟨⟨nI_nn (by omega), nI_nn (by omega)⟩, by rw [nI_clamp (by omega)]; omega, by rw [nI_clamp (by omega)]; omega⟩, nI_clamp (by omega), nI_clamp (by omega)]
  congr 2
  refine zH_ext (by show b0 + len + 1 + 8 = b0 + (len + 9); omega) rfl fun q => ?_
  show (if q = b0 + len then some (.inl (5, 8, .inr (.inr (.inr (.inr (fun i => if i < 8 then some (b0 + len + 1 + i) else none)))))) else if b0 + len < q ∧ q ≤ b0 + len + 8 then some (.inl (0, 1378, .inl (fun _ => 0))) else if b0 ≤ q ∧ q < b0 + len then c (q - b0) else none) = (if b0 ≤ q ∧ q < b0 + (len + 9) then (if q - b0 = len then some (.inl (5, 8, .inr (.inr (.inr (.inr (gArr (b0 + len))))))) else if len < q - b0 ∧ q - b0 ≤ len + 8 then some (.inl (0, 1378, .inl (fun _ => nI 0))) else c (q - b0)) else none)
  by_cases h1 : q = b0 + len
  · rw [if_pos h1, if_pos (by omega), if_pos (by omega)]
    rfl
  · rw [if_neg h1]
    by_cases h2 : b0 + len < q ∧ q ≤ b0 + len + 8
    · rw [if_pos h2, if_pos (by omega), if_neg (by omega), if_pos (by omega)]
      rfl
    · rw [if_neg h2]
      by_cases h3 : b0 ≤ q ∧ q < b0 + len
      · rw [if_pos h3, if_pos (by omega), if_neg (by omega), if_neg (by omega)]
      · rw [if_neg h3, if_neg (by omega)]
set_option maxRecDepth 4000 in
theorem C_model (hc : c len = some (.inr (9, [.int (nI 0), .null, .int (nI 0), .int (nI 0), .int (nI 0), .int (nI 0), .int (nI 0), .int (nI 0), .null, .null, .null, .int (nI 0), .int (nI 0), .int (nI 0), .int (nI 0), .null, .null, .null, .null, .int (nI 0), .int (nI 0), .null]))) : ∃ c', f_X9_init N (b0 + len) (hC b0 c (len + 1) m) = some (hC b0 c' (len + 18) (m + 100970)) ∧ (∀ j, j < len → c' j = c j) ∧ ∀ j, j < 18 → c' (len + j) = mcl (b0 + len) (fun k => if k = 7 then -nI 1 else nI 0) (mca (b0 + len) (fun _ => nI 0) (upd (fun _ => nI 0) 0 (nI 2)) (fun _ => nI 0) (fun _ _ => nI 0) (fun _ => 0) (fun _ => nI 0) (fun _ => nI 0) (fun _ => nI 0) (fun _ => nI 0)) j := by
  have n1 := hC_nI (b0 := b0) (c := c) (len := len + 1) (m := m) (n := 700) (by omega)
  generalize ha1 : upC c (len + 1) (.inl (0, 700, .inl (fun _ => nI 0))) = e1 at n1
  have a1 : ∀ j, j < len + 1 → e1 j = c j := fun j hj => by rw [← ha1, upC_ne (by omega)]
  have p1 := hC_pF (b0 := b0) (m := m + 700) (len := len + 2) (j := len) (k := 1) (v := .ref (b0 + (len + 1))) (by omega) ((a1 len (by omega)).trans hc) (by show 1 < 22; omega)
  generalize hg1 : upC e1 len (.inr (9, ([Value.int (nI 0), .null, .int (nI 0), .int (nI 0), .int (nI 0), .int (nI 0), .int (nI 0), .int (nI 0), .null, .null, .null, .int (nI 0), .int (nI 0), .int (nI 0), .int (nI 0), .null, .null, .null, .null, .int (nI 0), .int (nI 0), .null].set 1 (.ref (b0 + (len + 1)))))) = d1 at p1
  have o1 : d1 len = some (.inr (9, ([Value.int (nI 0), .null, .int (nI 0), .int (nI 0), .int (nI 0), .int (nI 0), .int (nI 0), .int (nI 0), .null, .null, .null, .int (nI 0), .int (nI 0), .int (nI 0), .int (nI 0), .null, .null, .null, .null, .int (nI 0), .int (nI 0), .null].set 1 (.ref (b0 + (len + 1)))))) := by rw [← hg1, upC_eq]
  have l1 : ∀ j, j ≠ len → d1 j = e1 j := fun j hj => by rw [← hg1, upC_ne hj]
  have p2 := hC_pF (b0 := b0) (m := m + 700) (len := len + 2) (j := len) (k := 7) (v := .int (-nI 1)) (by omega) (o1) (by show 7 < 22; omega)
  generalize hg2 : upC d1 len (.inr (9, (([Value.int (nI 0), .null, .int (nI 0), .int (nI 0), .int (nI 0), .int (nI 0), .int (nI 0), .int (nI 0), .null, .null, .null, .int (nI 0), .int (nI 0), .int (nI 0), .int (nI 0), .null, .null, .null, .null, .int (nI 0), .int (nI 0), .null].set 1 (.ref (b0 + (len + 1)))).set 7 (.int (-nI 1))))) = d2 at p2
  have o2 : d2 len = some (.inr (9, (([Value.int (nI 0), .null, .int (nI 0), .int (nI 0), .int (nI 0), .int (nI 0), .int (nI 0), .int (nI 0), .null, .null, .null, .int (nI 0), .int (nI 0), .int (nI 0), .int (nI 0), .null, .null, .null, .null, .int (nI 0), .int (nI 0), .null].set 1 (.ref (b0 + (len + 1)))).set 7 (.int (-nI 1))))) := by rw [← hg2, upC_eq]
  have l2 : ∀ j, j ≠ len → d2 j = d1 j := fun j hj => by rw [← hg2, upC_ne hj]
  have n3 := hC_nI (b0 := b0) (c := d2) (len := len + 2) (m := m + 700) (n := 1378) (by omega)
  generalize ha3 : upC d2 (len + 2) (.inl (0, 1378, .inl (fun _ => nI 0))) = e3 at n3
  have a3 : ∀ j, j < len + 2 → e3 j = d2 j := fun j hj => by rw [← ha3, upC_ne (by omega)]
  have p3 := hC_pF (b0 := b0) (m := m + 700 + 1378) (len := len + 3) (j := len) (k := 8) (v := .ref (b0 + (len + 2))) (by omega) ((a3 len (by omega)).trans o2) (by show 8 < 22; omega)
  generalize hg3 : upC e3 len (.inr (9, ((([Value.int (nI 0), .null, .int (nI 0), .int (nI 0), .int (nI 0), .int (nI 0), .int (nI 0), .int (nI 0), .null, .null, .null, .int (nI 0), .int (nI 0), .int (nI 0), .int (nI 0), .null, .null, .null, .null, .int (nI 0), .int (nI 0), .null].set 1 (.ref (b0 + (len + 1)))).set 7 (.int (-nI 1))).set 8 (.ref (b0 + (len + 2)))))) = d3 at p3
  have o3 : d3 len = some (.inr (9, ((([Value.int (nI 0), .null, .int (nI 0), .int (nI 0), .int (nI 0), .int (nI 0), .int (nI 0), .int (nI 0), .null, .null, .null, .int (nI 0), .int (nI 0), .int (nI 0), .int (nI 0), .null, .null, .null, .null, .int (nI 0), .int (nI 0), .null].set 1 (.ref (b0 + (len + 1)))).set 7 (.int (-nI 1))).set 8 (.ref (b0 + (len + 2)))))) := by rw [← hg3, upC_eq]
  have l3 : ∀ j, j ≠ len → d3 j = e3 j := fun j hj => by rw [← hg3, upC_ne hj]
  have n4 := hC_nI (b0 := b0) (c := d3) (len := len + 3) (m := m + 700 + 1378) (n := 1378) (by omega)
  generalize ha4 : upC d3 (len + 3) (.inl (0, 1378, .inl (fun _ => nI 0))) = e4 at n4
  have a4 : ∀ j, j < len + 3 → e4 j = d3 j := fun j hj => by rw [← ha4, upC_ne (by omega)]
  have p4 := hC_pF (b0 := b0) (m := m + 700 + 1378 + 1378) (len := len + 4) (j := len) (k := 9) (v := .ref (b0 + (len + 3))) (by omega) ((a4 len (by omega)).trans o3) (by show 9 < 22; omega)
  generalize hg4 : upC e4 len (.inr (9, (((([Value.int (nI 0), .null, .int (nI 0), .int (nI 0), .int (nI 0), .int (nI 0), .int (nI 0), .int (nI 0), .null, .null, .null, .int (nI 0), .int (nI 0), .int (nI 0), .int (nI 0), .null, .null, .null, .null, .int (nI 0), .int (nI 0), .null].set 1 (.ref (b0 + (len + 1)))).set 7 (.int (-nI 1))).set 8 (.ref (b0 + (len + 2)))).set 9 (.ref (b0 + (len + 3)))))) = d4 at p4
  have o4 : d4 len = some (.inr (9, (((([Value.int (nI 0), .null, .int (nI 0), .int (nI 0), .int (nI 0), .int (nI 0), .int (nI 0), .int (nI 0), .null, .null, .null, .int (nI 0), .int (nI 0), .int (nI 0), .int (nI 0), .null, .null, .null, .null, .int (nI 0), .int (nI 0), .null].set 1 (.ref (b0 + (len + 1)))).set 7 (.int (-nI 1))).set 8 (.ref (b0 + (len + 2)))).set 9 (.ref (b0 + (len + 3)))))) := by rw [← hg4, upC_eq]
  have l4 : ∀ j, j ≠ len → d4 j = e4 j := fun j hj => by rw [← hg4, upC_ne hj]
  have n5 := hC_nG (b0 := b0) (c := d4) (len := len + 4) (m := m + 700 + 1378 + 1378)
  generalize ha5 : upG d4 (len + 4) (b0 + (len + 4)) = e5 at n5
  have a5 : ∀ j, j < len + 4 → e5 j = d4 j := fun j hj => by rw [← ha5]; unfold upG; rw [if_neg (by omega), if_neg (by omega)]
  have p5 := hC_pF (b0 := b0) (m := m + 700 + 1378 + 1378 + 11032) (len := len + 13) (j := len) (k := 10) (v := .ref (b0 + (len + 4))) (by omega) ((a5 len (by omega)).trans o4) (by show 10 < 22; omega)
  generalize hg5 : upC e5 len (.inr (9, ((((([Value.int (nI 0), .null, .int (nI 0), .int (nI 0), .int (nI 0), .int (nI 0), .int (nI 0), .int (nI 0), .null, .null, .null, .int (nI 0), .int (nI 0), .int (nI 0), .int (nI 0), .null, .null, .null, .null, .int (nI 0), .int (nI 0), .null].set 1 (.ref (b0 + (len + 1)))).set 7 (.int (-nI 1))).set 8 (.ref (b0 + (len + 2)))).set 9 (.ref (b0 + (len + 3)))).set 10 (.ref (b0 + (len + 4)))))) = d5 at p5
  have o5 : d5 len = some (.inr (9, ((((([Value.int (nI 0), .null, .int (nI 0), .int (nI 0), .int (nI 0), .int (nI 0), .int (nI 0), .int (nI 0), .null, .null, .null, .int (nI 0), .int (nI 0), .int (nI 0), .int (nI 0), .null, .null, .null, .null, .int (nI 0), .int (nI 0), .null].set 1 (.ref (b0 + (len + 1)))).set 7 (.int (-nI 1))).set 8 (.ref (b0 + (len + 2)))).set 9 (.ref (b0 + (len + 3)))).set 10 (.ref (b0 + (len + 4)))))) := by rw [← hg5, upC_eq]
  have l5 : ∀ j, j ≠ len → d5 j = e5 j := fun j hj => by rw [← hg5, upC_ne hj]
  have n6 := hC_nJ (b0 := b0) (c := d5) (len := len + 13) (m := m + 700 + 1378 + 1378 + 11032) (n := 1200) (by omega)
  generalize ha6 : upC d5 (len + 13) (.inl (1, 1200, .inr (.inl (fun _ => 0)))) = e6 at n6
  have a6 : ∀ j, j < len + 13 → e6 j = d5 j := fun j hj => by rw [← ha6, upC_ne (by omega)]
  have p6 := hC_pF (b0 := b0) (m := m + 700 + 1378 + 1378 + 11032 + 1200) (len := len + 14) (j := len) (k := 15) (v := .ref (b0 + (len + 13))) (by omega) ((a6 len (by omega)).trans o5) (by show 15 < 22; omega)
  generalize hg6 : upC e6 len (.inr (9, (((((([Value.int (nI 0), .null, .int (nI 0), .int (nI 0), .int (nI 0), .int (nI 0), .int (nI 0), .int (nI 0), .null, .null, .null, .int (nI 0), .int (nI 0), .int (nI 0), .int (nI 0), .null, .null, .null, .null, .int (nI 0), .int (nI 0), .null].set 1 (.ref (b0 + (len + 1)))).set 7 (.int (-nI 1))).set 8 (.ref (b0 + (len + 2)))).set 9 (.ref (b0 + (len + 3)))).set 10 (.ref (b0 + (len + 4)))).set 15 (.ref (b0 + (len + 13)))))) = d6 at p6
  have o6 : d6 len = some (.inr (9, (((((([Value.int (nI 0), .null, .int (nI 0), .int (nI 0), .int (nI 0), .int (nI 0), .int (nI 0), .int (nI 0), .null, .null, .null, .int (nI 0), .int (nI 0), .int (nI 0), .int (nI 0), .null, .null, .null, .null, .int (nI 0), .int (nI 0), .null].set 1 (.ref (b0 + (len + 1)))).set 7 (.int (-nI 1))).set 8 (.ref (b0 + (len + 2)))).set 9 (.ref (b0 + (len + 3)))).set 10 (.ref (b0 + (len + 4)))).set 15 (.ref (b0 + (len + 13)))))) := by rw [← hg6, upC_eq]
  have l6 : ∀ j, j ≠ len → d6 j = e6 j := fun j hj => by rw [← hg6, upC_ne hj]
  have n7 := hC_nI (b0 := b0) (c := d6) (len := len + 14) (m := m + 700 + 1378 + 1378 + 11032 + 1200) (n := 120) (by omega)
  generalize ha7 : upC d6 (len + 14) (.inl (0, 120, .inl (fun _ => nI 0))) = e7 at n7
  have a7 : ∀ j, j < len + 14 → e7 j = d6 j := fun j hj => by rw [← ha7, upC_ne (by omega)]
  have p7 := hC_pF (b0 := b0) (m := m + 700 + 1378 + 1378 + 11032 + 1200 + 120) (len := len + 15) (j := len) (k := 16) (v := .ref (b0 + (len + 14))) (by omega) ((a7 len (by omega)).trans o6) (by show 16 < 22; omega)
  generalize hg7 : upC e7 len (.inr (9, ((((((([Value.int (nI 0), .null, .int (nI 0), .int (nI 0), .int (nI 0), .int (nI 0), .int (nI 0), .int (nI 0), .null, .null, .null, .int (nI 0), .int (nI 0), .int (nI 0), .int (nI 0), .null, .null, .null, .null, .int (nI 0), .int (nI 0), .null].set 1 (.ref (b0 + (len + 1)))).set 7 (.int (-nI 1))).set 8 (.ref (b0 + (len + 2)))).set 9 (.ref (b0 + (len + 3)))).set 10 (.ref (b0 + (len + 4)))).set 15 (.ref (b0 + (len + 13)))).set 16 (.ref (b0 + (len + 14)))))) = d7 at p7
  have o7 : d7 len = some (.inr (9, ((((((([Value.int (nI 0), .null, .int (nI 0), .int (nI 0), .int (nI 0), .int (nI 0), .int (nI 0), .int (nI 0), .null, .null, .null, .int (nI 0), .int (nI 0), .int (nI 0), .int (nI 0), .null, .null, .null, .null, .int (nI 0), .int (nI 0), .null].set 1 (.ref (b0 + (len + 1)))).set 7 (.int (-nI 1))).set 8 (.ref (b0 + (len + 2)))).set 9 (.ref (b0 + (len + 3)))).set 10 (.ref (b0 + (len + 4)))).set 15 (.ref (b0 + (len + 13)))).set 16 (.ref (b0 + (len + 14)))))) := by rw [← hg7, upC_eq]
  have l7 : ∀ j, j ≠ len → d7 j = e7 j := fun j hj => by rw [← hg7, upC_ne hj]
  have n8 := hC_nI (b0 := b0) (c := d7) (len := len + 15) (m := m + 700 + 1378 + 1378 + 11032 + 1200 + 120) (n := 54322) (by omega)
  generalize ha8 : upC d7 (len + 15) (.inl (0, 54322, .inl (fun _ => nI 0))) = e8 at n8
  have a8 : ∀ j, j < len + 15 → e8 j = d7 j := fun j hj => by rw [← ha8, upC_ne (by omega)]
  have p8 := hC_pF (b0 := b0) (m := m + 700 + 1378 + 1378 + 11032 + 1200 + 120 + 54322) (len := len + 16) (j := len) (k := 17) (v := .ref (b0 + (len + 15))) (by omega) ((a8 len (by omega)).trans o7) (by show 17 < 22; omega)
  generalize hg8 : upC e8 len (.inr (9, (((((((([Value.int (nI 0), .null, .int (nI 0), .int (nI 0), .int (nI 0), .int (nI 0), .int (nI 0), .int (nI 0), .null, .null, .null, .int (nI 0), .int (nI 0), .int (nI 0), .int (nI 0), .null, .null, .null, .null, .int (nI 0), .int (nI 0), .null].set 1 (.ref (b0 + (len + 1)))).set 7 (.int (-nI 1))).set 8 (.ref (b0 + (len + 2)))).set 9 (.ref (b0 + (len + 3)))).set 10 (.ref (b0 + (len + 4)))).set 15 (.ref (b0 + (len + 13)))).set 16 (.ref (b0 + (len + 14)))).set 17 (.ref (b0 + (len + 15)))))) = d8 at p8
  have o8 : d8 len = some (.inr (9, (((((((([Value.int (nI 0), .null, .int (nI 0), .int (nI 0), .int (nI 0), .int (nI 0), .int (nI 0), .int (nI 0), .null, .null, .null, .int (nI 0), .int (nI 0), .int (nI 0), .int (nI 0), .null, .null, .null, .null, .int (nI 0), .int (nI 0), .null].set 1 (.ref (b0 + (len + 1)))).set 7 (.int (-nI 1))).set 8 (.ref (b0 + (len + 2)))).set 9 (.ref (b0 + (len + 3)))).set 10 (.ref (b0 + (len + 4)))).set 15 (.ref (b0 + (len + 13)))).set 16 (.ref (b0 + (len + 14)))).set 17 (.ref (b0 + (len + 15)))))) := by rw [← hg8, upC_eq]
  have l8 : ∀ j, j ≠ len → d8 j = e8 j := fun j hj => by rw [← hg8, upC_ne hj]
  have n9 := hC_nZ (b0 := b0) (c := d8) (len := len + 16) (m := m + 700 + 1378 + 1378 + 11032 + 1200 + 120 + 54322) (n := 30720) (by omega)
  generalize ha9 : upC d8 (len + 16) (.inl (2, 30720, .inl (fun _ => nI 0))) = e9 at n9
  have a9 : ∀ j, j < len + 16 → e9 j = d8 j := fun j hj => by rw [← ha9, upC_ne (by omega)]
  have p9 := hC_pF (b0 := b0) (m := m + 700 + 1378 + 1378 + 11032 + 1200 + 120 + 54322 + 30720) (len := len + 17) (j := len) (k := 18) (v := .ref (b0 + (len + 16))) (by omega) ((a9 len (by omega)).trans o8) (by show 18 < 22; omega)
  generalize hg9 : upC e9 len (.inr (9, ((((((((([Value.int (nI 0), .null, .int (nI 0), .int (nI 0), .int (nI 0), .int (nI 0), .int (nI 0), .int (nI 0), .null, .null, .null, .int (nI 0), .int (nI 0), .int (nI 0), .int (nI 0), .null, .null, .null, .null, .int (nI 0), .int (nI 0), .null].set 1 (.ref (b0 + (len + 1)))).set 7 (.int (-nI 1))).set 8 (.ref (b0 + (len + 2)))).set 9 (.ref (b0 + (len + 3)))).set 10 (.ref (b0 + (len + 4)))).set 15 (.ref (b0 + (len + 13)))).set 16 (.ref (b0 + (len + 14)))).set 17 (.ref (b0 + (len + 15)))).set 18 (.ref (b0 + (len + 16)))))) = d9 at p9
  have o9 : d9 len = some (.inr (9, ((((((((([Value.int (nI 0), .null, .int (nI 0), .int (nI 0), .int (nI 0), .int (nI 0), .int (nI 0), .int (nI 0), .null, .null, .null, .int (nI 0), .int (nI 0), .int (nI 0), .int (nI 0), .null, .null, .null, .null, .int (nI 0), .int (nI 0), .null].set 1 (.ref (b0 + (len + 1)))).set 7 (.int (-nI 1))).set 8 (.ref (b0 + (len + 2)))).set 9 (.ref (b0 + (len + 3)))).set 10 (.ref (b0 + (len + 4)))).set 15 (.ref (b0 + (len + 13)))).set 16 (.ref (b0 + (len + 14)))).set 17 (.ref (b0 + (len + 15)))).set 18 (.ref (b0 + (len + 16)))))) := by rw [← hg9, upC_eq]
  have l9 : ∀ j, j ≠ len → d9 j = e9 j := fun j hj => by rw [← hg9, upC_ne hj]
  have n10 := hC_nI (b0 := b0) (c := d9) (len := len + 17) (m := m + 700 + 1378 + 1378 + 11032 + 1200 + 120 + 54322 + 30720) (n := 120) (by omega)
  generalize ha10 : upC d9 (len + 17) (.inl (0, 120, .inl (fun _ => nI 0))) = e10 at n10
  have a10 : ∀ j, j < len + 17 → e10 j = d9 j := fun j hj => by rw [← ha10, upC_ne (by omega)]
  have p10 := hC_pF (b0 := b0) (m := m + 700 + 1378 + 1378 + 11032 + 1200 + 120 + 54322 + 30720 + 120) (len := len + 18) (j := len) (k := 21) (v := .ref (b0 + (len + 17))) (by omega) ((a10 len (by omega)).trans o9) (by show 21 < 22; omega)
  generalize hg10 : upC e10 len (.inr (9, (((((((((([Value.int (nI 0), .null, .int (nI 0), .int (nI 0), .int (nI 0), .int (nI 0), .int (nI 0), .int (nI 0), .null, .null, .null, .int (nI 0), .int (nI 0), .int (nI 0), .int (nI 0), .null, .null, .null, .null, .int (nI 0), .int (nI 0), .null].set 1 (.ref (b0 + (len + 1)))).set 7 (.int (-nI 1))).set 8 (.ref (b0 + (len + 2)))).set 9 (.ref (b0 + (len + 3)))).set 10 (.ref (b0 + (len + 4)))).set 15 (.ref (b0 + (len + 13)))).set 16 (.ref (b0 + (len + 14)))).set 17 (.ref (b0 + (len + 15)))).set 18 (.ref (b0 + (len + 16)))).set 21 (.ref (b0 + (len + 17)))))) = d10 at p10
  have o10 : d10 len = some (.inr (9, (((((((((([Value.int (nI 0), .null, .int (nI 0), .int (nI 0), .int (nI 0), .int (nI 0), .int (nI 0), .int (nI 0), .null, .null, .null, .int (nI 0), .int (nI 0), .int (nI 0), .int (nI 0), .null, .null, .null, .null, .int (nI 0), .int (nI 0), .null].set 1 (.ref (b0 + (len + 1)))).set 7 (.int (-nI 1))).set 8 (.ref (b0 + (len + 2)))).set 9 (.ref (b0 + (len + 3)))).set 10 (.ref (b0 + (len + 4)))).set 15 (.ref (b0 + (len + 13)))).set 16 (.ref (b0 + (len + 14)))).set 17 (.ref (b0 + (len + 15)))).set 18 (.ref (b0 + (len + 16)))).set 21 (.ref (b0 + (len + 17)))))) := by rw [← hg10, upC_eq]
  have l10 : ∀ j, j ≠ len → d10 j = e10 j := fun j hj => by rw [← hg10, upC_ne hj]
  have v1 : d10 (len + 1) = some (.inl (0, 700, .inl (fun _ => nI 0))) := by rw [l10 _ (by omega), a10 _ (by omega), l9 _ (by omega), a9 _ (by omega), l8 _ (by omega), a8 _ (by omega), l7 _ (by omega), a7 _ (by omega), l6 _ (by omega), a6 _ (by omega), l5 _ (by omega), a5 _ (by omega), l4 _ (by omega), a4 _ (by omega), l3 _ (by omega), a3 _ (by omega), l2 _ (by omega), l1 _ (by omega), ← ha1, upC_eq]
  have v3 : d10 (len + 2) = some (.inl (0, 1378, .inl (fun _ => nI 0))) := by rw [l10 _ (by omega), a10 _ (by omega), l9 _ (by omega), a9 _ (by omega), l8 _ (by omega), a8 _ (by omega), l7 _ (by omega), a7 _ (by omega), l6 _ (by omega), a6 _ (by omega), l5 _ (by omega), a5 _ (by omega), l4 _ (by omega), a4 _ (by omega), l3 _ (by omega), ← ha3, upC_eq]
  have v4 : d10 (len + 3) = some (.inl (0, 1378, .inl (fun _ => nI 0))) := by rw [l10 _ (by omega), a10 _ (by omega), l9 _ (by omega), a9 _ (by omega), l8 _ (by omega), a8 _ (by omega), l7 _ (by omega), a7 _ (by omega), l6 _ (by omega), a6 _ (by omega), l5 _ (by omega), a5 _ (by omega), l4 _ (by omega), ← ha4, upC_eq]
  have v6 : d10 (len + 13) = some (.inl (1, 1200, .inr (.inl (fun _ => 0)))) := by rw [l10 _ (by omega), a10 _ (by omega), l9 _ (by omega), a9 _ (by omega), l8 _ (by omega), a8 _ (by omega), l7 _ (by omega), a7 _ (by omega), l6 _ (by omega), ← ha6, upC_eq]
  have v7 : d10 (len + 14) = some (.inl (0, 120, .inl (fun _ => nI 0))) := by rw [l10 _ (by omega), a10 _ (by omega), l9 _ (by omega), a9 _ (by omega), l8 _ (by omega), a8 _ (by omega), l7 _ (by omega), ← ha7, upC_eq]
  have v8 : d10 (len + 15) = some (.inl (0, 54322, .inl (fun _ => nI 0))) := by rw [l10 _ (by omega), a10 _ (by omega), l9 _ (by omega), a9 _ (by omega), l8 _ (by omega), ← ha8, upC_eq]
  have v9 : d10 (len + 16) = some (.inl (2, 30720, .inl (fun _ => nI 0))) := by rw [l10 _ (by omega), a10 _ (by omega), l9 _ (by omega), ← ha9, upC_eq]
  have v10 : d10 (len + 17) = some (.inl (0, 120, .inl (fun _ => nI 0))) := by rw [l10 _ (by omega), ← ha10, upC_eq]
  have vG : d10 (len + 4) = some (.inl (5, 8, .inr (.inr (.inr (.inr (gArr (b0 + (len + 4)))))))) := by rw [l10 _ (by omega), a10 _ (by omega), l9 _ (by omega), a9 _ (by omega), l8 _ (by omega), a8 _ (by omega), l7 _ (by omega), a7 _ (by omega), l6 _ (by omega), a6 _ (by omega), l5 _ (by omega), ← ha5]; unfold upG; rw [if_pos rfl]
  have vR : ∀ j, j < 8 → d10 (len + 4 + 1 + j) = some (.inl (0, 1378, .inl (fun _ => nI 0))) := fun j hj => by rw [l10 _ (by omega), a10 _ (by omega), l9 _ (by omega), a9 _ (by omega), l8 _ (by omega), a8 _ (by omega), l7 _ (by omega), a7 _ (by omega), l6 _ (by omega), a6 _ (by omega), l5 _ (by omega), ← ha5]; unfold upG; rw [if_neg (by omega), if_pos (by omega)]
  have g8 := hC_gA (b0 := b0) (m := m + 700 + 1378 + 1378 + 11032 + 1200 + 120 + 54322 + 30720 + 120) (len := len + 18) (j := len) (k := 8) (x := b0 + (len + 2)) (by omega) o10 rfl
  have st := hC_stI (b0 := b0) (m := m + 700 + 1378 + 1378 + 11032 + 1200 + 120 + 54322 + 30720 + 120) (len := len + 18) (j := len + 2) (k := 0) (x := nI 2) (by omega) v3 (by omega) (by omega)
  refine ⟨?cz9, ?eqz9, ?restz9⟩
  case eqz9 =>
    rw [show m + 100970 = m + 700 + 1378 + 1378 + 11032 + 1200 + 120 + 54322 + 30720 + 120 by omega]
    simp only [f_X9_init, nlit, n1, p1, p2, n3, p3, n4, p4, n5, p5, n6, p6, n7, p7, n8, p8, n9, p9, n10, p10, g8, st, Option.bind_some]
    rfl
  refine ⟨fun j hj => ?_, fun j hj => ?_⟩
  · rw [upC_ne (by omega), l10 _ (by omega), a10 _ (by omega), l9 _ (by omega), a9 _ (by omega), l8 _ (by omega), a8 _ (by omega), l7 _ (by omega), a7 _ (by omega), l6 _ (by omega), a6 _ (by omega), l5 _ (by omega), a5 _ (by omega), l4 _ (by omega), a4 _ (by omega), l3 _ (by omega), a3 _ (by omega), l2 _ (by omega), l1 _ (by omega), a1 _ (by omega)]
  · rcases (show j = 0 ∨ j = 1 ∨ j = 2 ∨ j = 3 ∨ j = 4 ∨ j = 5 ∨ j = 6 ∨ j = 7 ∨ j = 8 ∨ j = 9 ∨ j = 10 ∨ j = 11 ∨ j = 12 ∨ j = 13 ∨ j = 14 ∨ j = 15 ∨ j = 16 ∨ j = 17 by omega) with rfl | rfl | rfl | rfl | rfl | rfl | rfl | rfl | rfl | rfl | rfl | rfl | rfl | rfl | rfl | rfl | rfl | rfl
    · refine Eq.trans ((upC_ne (by omega)).trans o10) ?_
      rfl
    · refine Eq.trans ((upC_ne (by omega)).trans v1) ?_
      rfl
    · refine Eq.trans (upC_eq _ _ _) ?_
      rfl
    · refine Eq.trans ((upC_ne (by omega)).trans v4) ?_
      rfl
    · refine Eq.trans ((upC_ne (by omega)).trans vG) ?_
      rfl
    · refine Eq.trans ((upC_ne (by omega)).trans (vR 0 (by omega))) ?_
      rfl
    · refine Eq.trans ((upC_ne (by omega)).trans (vR 1 (by omega))) ?_
      rfl
    · refine Eq.trans ((upC_ne (by omega)).trans (vR 2 (by omega))) ?_
      rfl
    · refine Eq.trans ((upC_ne (by omega)).trans (vR 3 (by omega))) ?_
      rfl
    · refine Eq.trans ((upC_ne (by omega)).trans (vR 4 (by omega))) ?_
      rfl
    · refine Eq.trans ((upC_ne (by omega)).trans (vR 5 (by omega))) ?_
      rfl
    · refine Eq.trans ((upC_ne (by omega)).trans (vR 6 (by omega))) ?_
      rfl
    · refine Eq.trans ((upC_ne (by omega)).trans (vR 7 (by omega))) ?_
      rfl
    · refine Eq.trans ((upC_ne (by omega)).trans v6) ?_
      rfl
    · refine Eq.trans ((upC_ne (by omega)).trans v7) ?_
      rfl
    · refine Eq.trans ((upC_ne (by omega)).trans v8) ?_
      rfl
    · refine Eq.trans ((upC_ne (by omega)).trans v9) ?_
      rfl
    · refine Eq.trans ((upC_ne (by omega)).trans v10) ?_
      rfl
end M99964

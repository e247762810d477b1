/-! ===== the model in the heap: one setter ===== -/
def updH (H : Nat → Nat → Int32) (k : Nat) (f : Nat → Int32) : Nat → Nat → Int32 := fun j => if j = k then f else H j
def mob (m : Nat) (S : Nat → Int32) : zE := .inr (9, [.int (S 0), .ref (m + 1), .int (S 2), .int (S 3), .int (S 4), .int (S 5), .int (S 6), .int (S 7), .ref (m + 2), .ref (m + 3), .ref (m + 4), .int (S 11), .int (S 12), .int (S 13), .int (S 14), .ref (m + 13), .ref (m + 14), .ref (m + 15), .ref (m + 16), .int (S 19), .int (S 20), .ref (m + 17)])
def mca (m : Nat) (B D E : Nat → Int32) (H : Nat → Nat → Int32) (J : Nat → Int64) (L U Z W : Nat → Int32) : Nat → Option zE
  | 0 => some (.inl (0, 700, .inl B))
  | 1 => some (.inl (0, 1378, .inl D))
  | 2 => some (.inl (0, 1378, .inl E))
  | 3 => some (.inl (5, 8, .inr (.inr (.inr (.inr (fun k => if k < 8 then some (m + 5 + k) else none))))))
  | 4 => some (.inl (0, 1378, .inl (H 0)))
  | 5 => some (.inl (0, 1378, .inl (H 1)))
  | 6 => some (.inl (0, 1378, .inl (H 2)))
  | 7 => some (.inl (0, 1378, .inl (H 3)))
  | 8 => some (.inl (0, 1378, .inl (H 4)))
  | 9 => some (.inl (0, 1378, .inl (H 5)))
  | 10 => some (.inl (0, 1378, .inl (H 6)))
  | 11 => some (.inl (0, 1378, .inl (H 7)))
  | 12 => some (.inl (1, 1200, .inr (.inl J)))
  | 13 => some (.inl (0, 120, .inl L))
  | 14 => some (.inl (0, 54322, .inl U))
  | 15 => some (.inl (2, 30720, .inl Z))
  | 16 => some (.inl (0, 120, .inl W))
  | _ => none
def mcl (m : Nat) (S : Nat → Int32) (R : Nat → Option zE) : Nat → Option zE
  | 0 => some (mob m S)
  | j + 1 => R j
/-- the heap with the model there, in this state -/
def mset (h : zH) (m : Nat) (S B D E : Nat → Int32) (H : Nat → Nat → Int32) (J : Nat → Int64) (L U Z W : Nat → Int32) : zH := rs h m 18 (mcl m S (mca m B D E H J L U Z W))
theorem hS_ms (h : zH) (m : Nat) (S B D E : Nat → Int32) (H : Nat → Nat → Int32) (J : Nat → Int64) (L U Z W : Nat → Int32) : hS (mset h m S B D E H J L U Z W) = hS h := rfl
theorem hN_ms (h : zH) (m : Nat) (S B D E : Nat → Int32) (H : Nat → Nat → Int32) (J : Nat → Int64) (L U Z W : Nat → Int32) : hN (mset h m S B D E H J L U Z W) = hN h := rfl
section MSET
variable {h : zH} {m : Nat} {S B D E : Nat → Int32} {H : Nat → Nat → Int32} {J : Nat → Int64} {L U Z W : Nat → Int32}
theorem ms_0 : hM (mset h m S B D E H J L U Z W) m = some (mob m S) := rs_in (h := h) (a := m) (len := 18) (j := 0) (c := mcl m S (mca m B D E H J L U Z W)) (by omega) rfl
theorem ms_1 : hM (mset h m S B D E H J L U Z W) (m + 1) = some (.inl (0, 700, .inl B)) := rs_in (h := h) (a := m) (len := 18) (j := 1) (c := mcl m S (mca m B D E H J L U Z W)) (by omega) rfl
theorem ms_2 : hM (mset h m S B D E H J L U Z W) (m + 2) = some (.inl (0, 1378, .inl D)) := rs_in (h := h) (a := m) (len := 18) (j := 2) (c := mcl m S (mca m B D E H J L U Z W)) (by omega) rfl
theorem ms_3 : hM (mset h m S B D E H J L U Z W) (m + 3) = some (.inl (0, 1378, .inl E)) := rs_in (h := h) (a := m) (len := 18) (j := 3) (c := mcl m S (mca m B D E H J L U Z W)) (by omega) rfl
theorem ms_14 : hM (mset h m S B D E H J L U Z W) (m + 14) = some (.inl (0, 120, .inl L)) := rs_in (h := h) (a := m) (len := 18) (j := 14) (c := mcl m S (mca m B D E H J L U Z W)) (by omega) rfl
theorem ms_15 : hM (mset h m S B D E H J L U Z W) (m + 15) = some (.inl (0, 54322, .inl U)) := rs_in (h := h) (a := m) (len := 18) (j := 15) (c := mcl m S (mca m B D E H J L U Z W)) (by omega) rfl
theorem ms_17 : hM (mset h m S B D E H J L U Z W) (m + 17) = some (.inl (0, 120, .inl W)) := rs_in (h := h) (a := m) (len := 18) (j := 17) (c := mcl m S (mca m B D E H J L U Z W)) (by omega) rfl
theorem ms_4 : hM (mset h m S B D E H J L U Z W) (m + 4) = some (.inl (5, 8, .inr (.inr (.inr (.inr (fun k => if k < 8 then some (m + 5 + k) else none)))))) := rs_in (h := h) (a := m) (len := 18) (j := 4) (c := mcl m S (mca m B D E H J L U Z W)) (by omega) rfl
theorem ms_5 : hM (mset h m S B D E H J L U Z W) (m + 5) = some (.inl (0, 1378, .inl (H 0))) := rs_in (h := h) (a := m) (len := 18) (j := 5) (c := mcl m S (mca m B D E H J L U Z W)) (by omega) rfl
theorem ms_6 : hM (mset h m S B D E H J L U Z W) (m + 6) = some (.inl (0, 1378, .inl (H 1))) := rs_in (h := h) (a := m) (len := 18) (j := 6) (c := mcl m S (mca m B D E H J L U Z W)) (by omega) rfl
theorem ms_7 : hM (mset h m S B D E H J L U Z W) (m + 7) = some (.inl (0, 1378, .inl (H 2))) := rs_in (h := h) (a := m) (len := 18) (j := 7) (c := mcl m S (mca m B D E H J L U Z W)) (by omega) rfl
theorem ms_8 : hM (mset h m S B D E H J L U Z W) (m + 8) = some (.inl (0, 1378, .inl (H 3))) := rs_in (h := h) (a := m) (len := 18) (j := 8) (c := mcl m S (mca m B D E H J L U Z W)) (by omega) rfl
theorem ms_9 : hM (mset h m S B D E H J L U Z W) (m + 9) = some (.inl (0, 1378, .inl (H 4))) := rs_in (h := h) (a := m) (len := 18) (j := 9) (c := mcl m S (mca m B D E H J L U Z W)) (by omega) rfl
theorem ms_10 : hM (mset h m S B D E H J L U Z W) (m + 10) = some (.inl (0, 1378, .inl (H 5))) := rs_in (h := h) (a := m) (len := 18) (j := 10) (c := mcl m S (mca m B D E H J L U Z W)) (by omega) rfl
theorem ms_11 : hM (mset h m S B D E H J L U Z W) (m + 11) = some (.inl (0, 1378, .inl (H 6))) := rs_in (h := h) (a := m) (len := 18) (j := 11) (c := mcl m S (mca m B D E H J L U Z W)) (by omega) rfl
theorem ms_12 : hM (mset h m S B D E H J L U Z W) (m + 12) = some (.inl (0, 1378, .inl (H 7))) := rs_in (h := h) (a := m) (len := 18) (j := 12) (c := mcl m S (mca m B D E H J L U Z W)) (by omega) rfl
theorem ms_13 : hM (mset h m S B D E H J L U Z W) (m + 13) = some (.inl (1, 1200, .inr (.inl J))) := rs_in (h := h) (a := m) (len := 18) (j := 13) (c := mcl m S (mca m B D E H J L U Z W)) (by omega) rfl
theorem ms_16 : hM (mset h m S B D E H J L U Z W) (m + 16) = some (.inl (2, 30720, .inl Z)) := rs_in (h := h) (a := m) (len := 18) (j := 16) (c := mcl m S (mca m B D E H J L U Z W)) (by omega) rfl
theorem ms_H {k : Nat} (hk : k < 8) : hM (mset h m S B D E H J L U Z W) (m + 5 + k) = some (.inl (0, 1378, .inl (H k))) := by
  rcases (show k = 0 ∨ k = 1 ∨ k = 2 ∨ k = 3 ∨ k = 4 ∨ k = 5 ∨ k = 6 ∨ k = 7 by omega) with rfl | rfl | rfl | rfl | rfl | rfl | rfl | rfl
  · exact ms_5
  · exact ms_6
  · exact ms_7
  · exact ms_8
  · exact ms_9
  · exact ms_10
  · exact ms_11
  · exact ms_12
theorem onO_ms {β : Type} {F : Option β} : onO 9 m (mset h m S B D E H J L U Z W) F = F := onO_of' ms_0
theorem gI_ms : gI (mset h m S B D E H J L U Z W) m 9 0 = some (S 0) ∧ gI (mset h m S B D E H J L U Z W) m 9 2 = some (S 2) ∧ gI (mset h m S B D E H J L U Z W) m 9 3 = some (S 3) ∧ gI (mset h m S B D E H J L U Z W) m 9 4 = some (S 4) ∧ gI (mset h m S B D E H J L U Z W) m 9 5 = some (S 5) ∧ gI (mset h m S B D E H J L U Z W) m 9 6 = some (S 6) ∧ gI (mset h m S B D E H J L U Z W) m 9 7 = some (S 7) ∧ gI (mset h m S B D E H J L U Z W) m 9 11 = some (S 11) ∧ gI (mset h m S B D E H J L U Z W) m 9 12 = some (S 12) ∧ gI (mset h m S B D E H J L U Z W) m 9 13 = some (S 13) ∧ gI (mset h m S B D E H J L U Z W) m 9 14 = some (S 14) ∧ gI (mset h m S B D E H J L U Z W) m 9 19 = some (S 19) ∧ gI (mset h m S B D E H J L U Z W) m 9 20 = some (S 20) := ⟨gI_of' ms_0 rfl, gI_of' ms_0 rfl, gI_of' ms_0 rfl, gI_of' ms_0 rfl, gI_of' ms_0 rfl, gI_of' ms_0 rfl, gI_of' ms_0 rfl, gI_of' ms_0 rfl, gI_of' ms_0 rfl, gI_of' ms_0 rfl, gI_of' ms_0 rfl, gI_of' ms_0 rfl, gI_of' ms_0 rfl⟩
theorem gA_ms : gA (mset h m S B D E H J L U Z W) m 9 1 = some (m + 1) ∧ gA (mset h m S B D E H J L U Z W) m 9 8 = some (m + 2) ∧ gA (mset h m S B D E H J L U Z W) m 9 9 = some (m + 3) ∧ gA (mset h m S B D E H J L U Z W) m 9 10 = some (m + 4) ∧ gA (mset h m S B D E H J L U Z W) m 9 15 = some (m + 13) ∧ gA (mset h m S B D E H J L U Z W) m 9 16 = some (m + 14) ∧ gA (mset h m S B D E H J L U Z W) m 9 17 = some (m + 15) ∧ gA (mset h m S B D E H J L U Z W) m 9 18 = some (m + 16) ∧ gA (mset h m S B D E H J L U Z W) m 9 21 = some (m + 17) := ⟨gA_of' ms_0 rfl, gA_of' ms_0 rfl, gA_of' ms_0 rfl, gA_of' ms_0 rfl, gA_of' ms_0 rfl, gA_of' ms_0 rfl, gA_of' ms_0 rfl, gA_of' ms_0 rfl, gA_of' ms_0 rfl⟩
theorem put_ms0 {T : Nat → Int32} {e : zE} (he : e = mob m T) : hPut (mset h m S B D E H J L U Z W) m e = (mset h m T B D E H J L U Z W) := by
  subst he
  have h1 := rs_put (h := h) (a := m) (len := 18) (j := 0) (c := mcl m S (mca m B D E H J L U Z W)) (e := mob m T) (by omega)
  refine Eq.trans h1 (rs_ext fun j hj => ?_)
  cases j with
  | zero => rfl
  | succ j => rfl
theorem pF_ms0 (x : Int32) : pF (mset h m S B D E H J L U Z W) m 9 0 (.int x) = some (mset h m (upd S 0 x) B D E H J L U Z W) := by
  exact (pF_of' ms_0 (by show 0 < 22; omega)).trans (congrArg some (put_ms0 (T := upd S 0 x) rfl))
theorem pF_ms2 (x : Int32) : pF (mset h m S B D E H J L U Z W) m 9 2 (.int x) = some (mset h m (upd S 2 x) B D E H J L U Z W) := by
  exact (pF_of' ms_0 (by show 2 < 22; omega)).trans (congrArg some (put_ms0 (T := upd S 2 x) rfl))
theorem pF_ms3 (x : Int32) : pF (mset h m S B D E H J L U Z W) m 9 3 (.int x) = some (mset h m (upd S 3 x) B D E H J L U Z W) := by
  exact (pF_of' ms_0 (by show 3 < 22; omega)).trans (congrArg some (put_ms0 (T := upd S 3 x) rfl))
theorem pF_ms4 (x : Int32) : pF (mset h m S B D E H J L U Z W) m 9 4 (.int x) = some (mset h m (upd S 4 x) B D E H J L U Z W) := by
  exact (pF_of' ms_0 (by show 4 < 22; omega)).trans (congrArg some (put_ms0 (T := upd S 4 x) rfl))
theorem pF_ms5 (x : Int32) : pF (mset h m S B D E H J L U Z W) m 9 5 (.int x) = some (mset h m (upd S 5 x) B D E H J L U Z W) := by
  exact (pF_of' ms_0 (by show 5 < 22; omega)).trans (congrArg some (put_ms0 (T := upd S 5 x) rfl))
theorem pF_ms6 (x : Int32) : pF (mset h m S B D E H J L U Z W) m 9 6 (.int x) = some (mset h m (upd S 6 x) B D E H J L U Z W) := by
  exact (pF_of' ms_0 (by show 6 < 22; omega)).trans (congrArg some (put_ms0 (T := upd S 6 x) rfl))
theorem pF_ms7 (x : Int32) : pF (mset h m S B D E H J L U Z W) m 9 7 (.int x) = some (mset h m (upd S 7 x) B D E H J L U Z W) := by
  exact (pF_of' ms_0 (by show 7 < 22; omega)).trans (congrArg some (put_ms0 (T := upd S 7 x) rfl))
theorem pF_ms11 (x : Int32) : pF (mset h m S B D E H J L U Z W) m 9 11 (.int x) = some (mset h m (upd S 11 x) B D E H J L U Z W) := by
  exact (pF_of' ms_0 (by show 11 < 22; omega)).trans (congrArg some (put_ms0 (T := upd S 11 x) rfl))
theorem pF_ms12 (x : Int32) : pF (mset h m S B D E H J L U Z W) m 9 12 (.int x) = some (mset h m (upd S 12 x) B D E H J L U Z W) := by
  exact (pF_of' ms_0 (by show 12 < 22; omega)).trans (congrArg some (put_ms0 (T := upd S 12 x) rfl))
theorem pF_ms13 (x : Int32) : pF (mset h m S B D E H J L U Z W) m 9 13 (.int x) = some (mset h m (upd S 13 x) B D E H J L U Z W) := by
  exact (pF_of' ms_0 (by show 13 < 22; omega)).trans (congrArg some (put_ms0 (T := upd S 13 x) rfl))
theorem pF_ms14 (x : Int32) : pF (mset h m S B D E H J L U Z W) m 9 14 (.int x) = some (mset h m (upd S 14 x) B D E H J L U Z W) := by
  exact (pF_of' ms_0 (by show 14 < 22; omega)).trans (congrArg some (put_ms0 (T := upd S 14 x) rfl))
theorem pF_ms19 (x : Int32) : pF (mset h m S B D E H J L U Z W) m 9 19 (.int x) = some (mset h m (upd S 19 x) B D E H J L U Z W) := by
  exact (pF_of' ms_0 (by show 19 < 22; omega)).trans (congrArg some (put_ms0 (T := upd S 19 x) rfl))
theorem pF_ms20 (x : Int32) : pF (mset h m S B D E H J L U Z W) m 9 20 (.int x) = some (mset h m (upd S 20 x) B D E H J L U Z W) := by
  exact (pF_of' ms_0 (by show 20 < 22; omega)).trans (congrArg some (put_ms0 (T := upd S 20 x) rfl))
theorem pF_ms : (∀ x : Int32, pF (mset h m S B D E H J L U Z W) m 9 0 (.int x) = some (mset h m (upd S 0 x) B D E H J L U Z W)) ∧ (∀ x : Int32, pF (mset h m S B D E H J L U Z W) m 9 2 (.int x) = some (mset h m (upd S 2 x) B D E H J L U Z W)) ∧ (∀ x : Int32, pF (mset h m S B D E H J L U Z W) m 9 3 (.int x) = some (mset h m (upd S 3 x) B D E H J L U Z W)) ∧ (∀ x : Int32, pF (mset h m S B D E H J L U Z W) m 9 4 (.int x) = some (mset h m (upd S 4 x) B D E H J L U Z W)) ∧ (∀ x : Int32, pF (mset h m S B D E H J L U Z W) m 9 5 (.int x) = some (mset h m (upd S 5 x) B D E H J L U Z W)) ∧ (∀ x : Int32, pF (mset h m S B D E H J L U Z W) m 9 6 (.int x) = some (mset h m (upd S 6 x) B D E H J L U Z W)) ∧ (∀ x : Int32, pF (mset h m S B D E H J L U Z W) m 9 7 (.int x) = some (mset h m (upd S 7 x) B D E H J L U Z W)) ∧ (∀ x : Int32, pF (mset h m S B D E H J L U Z W) m 9 11 (.int x) = some (mset h m (upd S 11 x) B D E H J L U Z W)) ∧ (∀ x : Int32, pF (mset h m S B D E H J L U Z W) m 9 12 (.int x) = some (mset h m (upd S 12 x) B D E H J L U Z W)) ∧ (∀ x : Int32, pF (mset h m S B D E H J L U Z W) m 9 13 (.int x) = some (mset h m (upd S 13 x) B D E H J L U Z W)) ∧ (∀ x : Int32, pF (mset h m S B D E H J L U Z W) m 9 14 (.int x) = some (mset h m (upd S 14 x) B D E H J L U Z W)) ∧ (∀ x : Int32, pF (mset h m S B D E H J L U Z W) m 9 19 (.int x) = some (mset h m (upd S 19 x) B D E H J L U Z W)) ∧ (∀ x : Int32, pF (mset h m S B D E H J L U Z W) m 9 20 (.int x) = some (mset h m (upd S 20 x) B D E H J L U Z W)) := ⟨pF_ms0, pF_ms2, pF_ms3, pF_ms4, pF_ms5, pF_ms6, pF_ms7, pF_ms11, pF_ms12, pF_ms13, pF_ms14, pF_ms19, pF_ms20⟩
theorem put_ms1 {f : Nat → Int32} : hPut (mset h m S B D E H J L U Z W) (m + 1) (.inl (0, 700, .inl f)) = (mset h m S f D E H J L U Z W) := by
  have h1 := rs_put (h := h) (a := m) (len := 18) (j := 1) (c := mcl m S (mca m B D E H J L U Z W)) (e := .inl (0, 700, .inl f)) (by omega)
  refine Eq.trans h1 (rs_ext fun j hj => ?_)
  match j, hj with
  | 0, _ => rfl
  | 1, _ => rfl
  | 2, _ => rfl
  | 3, _ => rfl
  | 4, _ => rfl
  | 5, _ => rfl
  | 6, _ => rfl
  | 7, _ => rfl
  | 8, _ => rfl
  | 9, _ => rfl
  | 10, _ => rfl
  | 11, _ => rfl
  | 12, _ => rfl
  | 13, _ => rfl
  | 14, _ => rfl
  | 15, _ => rfl
  | 16, _ => rfl
  | 17, _ => rfl
  | n + 18, hh => exact absurd hh (by omega)
theorem put_ms2 {f : Nat → Int32} : hPut (mset h m S B D E H J L U Z W) (m + 2) (.inl (0, 1378, .inl f)) = (mset h m S B f E H J L U Z W) := by
  have h1 := rs_put (h := h) (a := m) (len := 18) (j := 2) (c := mcl m S (mca m B D E H J L U Z W)) (e := .inl (0, 1378, .inl f)) (by omega)
  refine Eq.trans h1 (rs_ext fun j hj => ?_)
  match j, hj with
  | 0, _ => rfl
  | 1, _ => rfl
  | 2, _ => rfl
  | 3, _ => rfl
  | 4, _ => rfl
  | 5, _ => rfl
  | 6, _ => rfl
  | 7, _ => rfl
  | 8, _ => rfl
  | 9, _ => rfl
  | 10, _ => rfl
  | 11, _ => rfl
  | 12, _ => rfl
  | 13, _ => rfl
  | 14, _ => rfl
  | 15, _ => rfl
  | 16, _ => rfl
  | 17, _ => rfl
  | n + 18, hh => exact absurd hh (by omega)
theorem put_ms3 {f : Nat → Int32} : hPut (mset h m S B D E H J L U Z W) (m + 3) (.inl (0, 1378, .inl f)) = (mset h m S B D f H J L U Z W) := by
  have h1 := rs_put (h := h) (a := m) (len := 18) (j := 3) (c := mcl m S (mca m B D E H J L U Z W)) (e := .inl (0, 1378, .inl f)) (by omega)
  refine Eq.trans h1 (rs_ext fun j hj => ?_)
  match j, hj with
  | 0, _ => rfl
  | 1, _ => rfl
  | 2, _ => rfl
  | 3, _ => rfl
  | 4, _ => rfl
  | 5, _ => rfl
  | 6, _ => rfl
  | 7, _ => rfl
  | 8, _ => rfl
  | 9, _ => rfl
  | 10, _ => rfl
  | 11, _ => rfl
  | 12, _ => rfl
  | 13, _ => rfl
  | 14, _ => rfl
  | 15, _ => rfl
  | 16, _ => rfl
  | 17, _ => rfl
  | n + 18, hh => exact absurd hh (by omega)
theorem put_ms14 {f : Nat → Int32} : hPut (mset h m S B D E H J L U Z W) (m + 14) (.inl (0, 120, .inl f)) = (mset h m S B D E H J f U Z W) := by
  have h1 := rs_put (h := h) (a := m) (len := 18) (j := 14) (c := mcl m S (mca m B D E H J L U Z W)) (e := .inl (0, 120, .inl f)) (by omega)
  refine Eq.trans h1 (rs_ext fun j hj => ?_)
  match j, hj with
  | 0, _ => rfl
  | 1, _ => rfl
  | 2, _ => rfl
  | 3, _ => rfl
  | 4, _ => rfl
  | 5, _ => rfl
  | 6, _ => rfl
  | 7, _ => rfl
  | 8, _ => rfl
  | 9, _ => rfl
  | 10, _ => rfl
  | 11, _ => rfl
  | 12, _ => rfl
  | 13, _ => rfl
  | 14, _ => rfl
  | 15, _ => rfl
  | 16, _ => rfl
  | 17, _ => rfl
  | n + 18, hh => exact absurd hh (by omega)
theorem put_ms15 {f : Nat → Int32} : hPut (mset h m S B D E H J L U Z W) (m + 15) (.inl (0, 54322, .inl f)) = (mset h m S B D E H J L f Z W) := by
  have h1 := rs_put (h := h) (a := m) (len := 18) (j := 15) (c := mcl m S (mca m B D E H J L U Z W)) (e := .inl (0, 54322, .inl f)) (by omega)
  refine Eq.trans h1 (rs_ext fun j hj => ?_)
  match j, hj with
  | 0, _ => rfl
  | 1, _ => rfl
  | 2, _ => rfl
  | 3, _ => rfl
  | 4, _ => rfl
  | 5, _ => rfl
  | 6, _ => rfl
  | 7, _ => rfl
  | 8, _ => rfl
  | 9, _ => rfl
  | 10, _ => rfl
  | 11, _ => rfl
  | 12, _ => rfl
  | 13, _ => rfl
  | 14, _ => rfl
  | 15, _ => rfl
  | 16, _ => rfl
  | 17, _ => rfl
  | n + 18, hh => exact absurd hh (by omega)
theorem put_ms17 {f : Nat → Int32} : hPut (mset h m S B D E H J L U Z W) (m + 17) (.inl (0, 120, .inl f)) = (mset h m S B D E H J L U Z f) := by
  have h1 := rs_put (h := h) (a := m) (len := 18) (j := 17) (c := mcl m S (mca m B D E H J L U Z W)) (e := .inl (0, 120, .inl f)) (by omega)
  refine Eq.trans h1 (rs_ext fun j hj => ?_)
  match j, hj with
  | 0, _ => rfl
  | 1, _ => rfl
  | 2, _ => rfl
  | 3, _ => rfl
  | 4, _ => rfl
  | 5, _ => rfl
  | 6, _ => rfl
  | 7, _ => rfl
  | 8, _ => rfl
  | 9, _ => rfl
  | 10, _ => rfl
  | 11, _ => rfl
  | 12, _ => rfl
  | 13, _ => rfl
  | 14, _ => rfl
  | 15, _ => rfl
  | 16, _ => rfl
  | 17, _ => rfl
  | n + 18, hh => exact absurd hh (by omega)
theorem put_ms5 {f : Nat → Int32} : hPut (mset h m S B D E H J L U Z W) (m + 5) (.inl (0, 1378, .inl f)) = (mset h m S B D E (updH H 0 f) J L U Z W) := by
  have h1 := rs_put (h := h) (a := m) (len := 18) (j := 5) (c := mcl m S (mca m B D E H J L U Z W)) (e := .inl (0, 1378, .inl f)) (by omega)
  refine Eq.trans h1 (rs_ext fun j hj => ?_)
  match j, hj with
  | 0, _ => rfl
  | 1, _ => rfl
  | 2, _ => rfl
  | 3, _ => rfl
  | 4, _ => rfl
  | 5, _ => rfl
  | 6, _ => rfl
  | 7, _ => rfl
  | 8, _ => rfl
  | 9, _ => rfl
  | 10, _ => rfl
  | 11, _ => rfl
  | 12, _ => rfl
  | 13, _ => rfl
  | 14, _ => rfl
  | 15, _ => rfl
  | 16, _ => rfl
  | 17, _ => rfl
  | n + 18, hh => exact absurd hh (by omega)
theorem put_ms6 {f : Nat → Int32} : hPut (mset h m S B D E H J L U Z W) (m + 6) (.inl (0, 1378, .inl f)) = (mset h m S B D E (updH H 1 f) J L U Z W) := by
  have h1 := rs_put (h := h) (a := m) (len := 18) (j := 6) (c := mcl m S (mca m B D E H J L U Z W)) (e := .inl (0, 1378, .inl f)) (by omega)
  refine Eq.trans h1 (rs_ext fun j hj => ?_)
  match j, hj with
  | 0, _ => rfl
  | 1, _ => rfl
  | 2, _ => rfl
  | 3, _ => rfl
  | 4, _ => rfl
  | 5, _ => rfl
  | 6, _ => rfl
  | 7, _ => rfl
  | 8, _ => rfl
  | 9, _ => rfl
  | 10, _ => rfl
  | 11, _ => rfl
  | 12, _ => rfl
  | 13, _ => rfl
  | 14, _ => rfl
  | 15, _ => rfl
  | 16, _ => rfl
  | 17, _ => rfl
  | n + 18, hh => exact absurd hh (by omega)
theorem put_ms7 {f : Nat → Int32} : hPut (mset h m S B D E H J L U Z W) (m + 7) (.inl (0, 1378, .inl f)) = (mset h m S B D E (updH H 2 f) J L U Z W) := by
  have h1 := rs_put (h := h) (a := m) (len := 18) (j := 7) (c := mcl m S (mca m B D E H J L U Z W)) (e := .inl (0, 1378, .inl f)) (by omega)
  refine Eq.trans h1 (rs_ext fun j hj => ?_)
  match j, hj with
  | 0, _ => rfl
  | 1, _ => rfl
  | 2, _ => rfl
  | 3, _ => rfl
  | 4, _ => rfl
  | 5, _ => rfl
  | 6, _ => rfl
  | 7, _ => rfl
  | 8, _ => rfl
  | 9, _ => rfl
  | 10, _ => rfl
  | 11, _ => rfl
  | 12, _ => rfl
  | 13, _ => rfl
  | 14, _ => rfl
  | 15, _ => rfl
  | 16, _ => rfl
  | 17, _ => rfl
  | n + 18, hh => exact absurd hh (by omega)
theorem put_ms8 {f : Nat → Int32} : hPut (mset h m S B D E H J L U Z W) (m + 8) (.inl (0, 1378, .inl f)) = (mset h m S B D E (updH H 3 f) J L U Z W) := by
  have h1 := rs_put (h := h) (a := m) (len := 18) (j := 8) (c := mcl m S (mca m B D E H J L U Z W)) (e := .inl (0, 1378, .inl f)) (by omega)
  refine Eq.trans h1 (rs_ext fun j hj => ?_)
  match j, hj with
  | 0, _ => rfl
  | 1, _ => rfl
  | 2, _ => rfl
  | 3, _ => rfl
  | 4, _ => rfl
  | 5, _ => rfl
  | 6, _ => rfl
  | 7, _ => rfl
  | 8, _ => rfl
  | 9, _ => rfl
  | 10, _ => rfl
  | 11, _ => rfl
  | 12, _ => rfl
  | 13, _ => rfl
  | 14, _ => rfl
  | 15, _ => rfl
  | 16, _ => rfl
  | 17, _ => rfl
  | n + 18, hh => exact absurd hh (by omega)
theorem put_ms9 {f : Nat → Int32} : hPut (mset h m S B D E H J L U Z W) (m + 9) (.inl (0, 1378, .inl f)) = (mset h m S B D E (updH H 4 f) J L U Z W) := by
  have h1 := rs_put (h := h) (a := m) (len := 18) (j := 9) (c := mcl m S (mca m B D E H J L U Z W)) (e := .inl (0, 1378, .inl f)) (by omega)
  refine Eq.trans h1 (rs_ext fun j hj => ?_)
  match j, hj with
  | 0, _ => rfl
  | 1, _ => rfl
  | 2, _ => rfl
  | 3, _ => rfl
  | 4, _ => rfl
  | 5, _ => rfl
  | 6, _ => rfl
  | 7, _ => rfl
  | 8, _ => rfl
  | 9, _ => rfl
  | 10, _ => rfl
  | 11, _ => rfl
  | 12, _ => rfl
  | 13, _ => rfl
  | 14, _ => rfl
  | 15, _ => rfl
  | 16, _ => rfl
  | 17, _ => rfl
  | n + 18, hh => exact absurd hh (by omega)
theorem put_ms10 {f : Nat → Int32} : hPut (mset h m S B D E H J L U Z W) (m + 10) (.inl (0, 1378, .inl f)) = (mset h m S B D E (updH H 5 f) J L U Z W) := by
  have h1 := rs_put (h := h) (a := m) (len := 18) (j := 10) (c := mcl m S (mca m B D E H J L U Z W)) (e := .inl (0, 1378, .inl f)) (by omega)
  refine Eq.trans h1 (rs_ext fun j hj => ?_)
  match j, hj with
  | 0, _ => rfl
  | 1, _ => rfl
  | 2, _ => rfl
  | 3, _ => rfl
  | 4, _ => rfl
  | 5, _ => rfl
  | 6, _ => rfl
  | 7, _ => rfl
  | 8, _ => rfl
  | 9, _ => rfl
  | 10, _ => rfl
  | 11, _ => rfl
  | 12, _ => rfl
  | 13, _ => rfl
  | 14, _ => rfl
  | 15, _ => rfl
  | 16, _ => rfl
  | 17, _ => rfl
  | n + 18, hh => exact absurd hh (by omega)
theorem put_ms11 {f : Nat → Int32} : hPut (mset h m S B D E H J L U Z W) (m + 11) (.inl (0, 1378, .inl f)) = (mset h m S B D E (updH H 6 f) J L U Z W) := by
  have h1 := rs_put (h := h) (a := m) (len := 18) (j := 11) (c := mcl m S (mca m B D E H J L U Z W)) (e := .inl (0, 1378, .inl f)) (by omega)
  refine Eq.trans h1 (rs_ext fun j hj => ?_)
  match j, hj with
  | 0, _ => rfl
  | 1, _ => rfl
  | 2, _ => rfl
  | 3, _ => rfl
  | 4, _ => rfl
  | 5, _ => rfl
  | 6, _ => rfl
  | 7, _ => rfl
  | 8, _ => rfl
  | 9, _ => rfl
  | 10, _ => rfl
  | 11, _ => rfl
  | 12, _ => rfl
  | 13, _ => rfl
  | 14, _ => rfl
  | 15, _ => rfl
  | 16, _ => rfl
  | 17, _ => rfl
  | n + 18, hh => exact absurd hh (by omega)
theorem put_ms12 {f : Nat → Int32} : hPut (mset h m S B D E H J L U Z W) (m + 12) (.inl (0, 1378, .inl f)) = (mset h m S B D E (updH H 7 f) J L U Z W) := by
  have h1 := rs_put (h := h) (a := m) (len := 18) (j := 12) (c := mcl m S (mca m B D E H J L U Z W)) (e := .inl (0, 1378, .inl f)) (by omega)
  refine Eq.trans h1 (rs_ext fun j hj => ?_)
  match j, hj with
  | 0, _ => rfl
  | 1, _ => rfl
  | 2, _ => rfl
  | 3, _ => rfl
  | 4, _ => rfl
  | 5, _ => rfl
  | 6, _ => rfl
  | 7, _ => rfl
  | 8, _ => rfl
  | 9, _ => rfl
  | 10, _ => rfl
  | 11, _ => rfl
  | 12, _ => rfl
  | 13, _ => rfl
  | 14, _ => rfl
  | 15, _ => rfl
  | 16, _ => rfl
  | 17, _ => rfl
  | n + 18, hh => exact absurd hh (by omega)
theorem put_ms13 {f : Nat → Int64} : hPut (mset h m S B D E H J L U Z W) (m + 13) (.inl (1, 1200, .inr (.inl f))) = (mset h m S B D E H f L U Z W) := by
  have h1 := rs_put (h := h) (a := m) (len := 18) (j := 13) (c := mcl m S (mca m B D E H J L U Z W)) (e := .inl (1, 1200, .inr (.inl f))) (by omega)
  refine Eq.trans h1 (rs_ext fun j hj => ?_)
  match j, hj with
  | 0, _ => rfl
  | 1, _ => rfl
  | 2, _ => rfl
  | 3, _ => rfl
  | 4, _ => rfl
  | 5, _ => rfl
  | 6, _ => rfl
  | 7, _ => rfl
  | 8, _ => rfl
  | 9, _ => rfl
  | 10, _ => rfl
  | 11, _ => rfl
  | 12, _ => rfl
  | 13, _ => rfl
  | 14, _ => rfl
  | 15, _ => rfl
  | 16, _ => rfl
  | 17, _ => rfl
  | n + 18, hh => exact absurd hh (by omega)
theorem put_ms16 {f : Nat → Int32} : hPut (mset h m S B D E H J L U Z W) (m + 16) (.inl (2, 30720, .inl f)) = (mset h m S B D E H J L U f W) := by
  have h1 := rs_put (h := h) (a := m) (len := 18) (j := 16) (c := mcl m S (mca m B D E H J L U Z W)) (e := .inl (2, 30720, .inl f)) (by omega)
  refine Eq.trans h1 (rs_ext fun j hj => ?_)
  match j, hj with
  | 0, _ => rfl
  | 1, _ => rfl
  | 2, _ => rfl
  | 3, _ => rfl
  | 4, _ => rfl
  | 5, _ => rfl
  | 6, _ => rfl
  | 7, _ => rfl
  | 8, _ => rfl
  | 9, _ => rfl
  | 10, _ => rfl
  | 11, _ => rfl
  | 12, _ => rfl
  | 13, _ => rfl
  | 14, _ => rfl
  | 15, _ => rfl
  | 16, _ => rfl
  | 17, _ => rfl
  | n + 18, hh => exact absurd hh (by omega)
theorem ldI_ms : (∀ k : Nat, k < 700 → ldI (mset h m S B D E H J L U Z W) (m + 1) (nI k) = some (B k)) ∧ (∀ k : Nat, k < 1378 → ldI (mset h m S B D E H J L U Z W) (m + 2) (nI k) = some (D k)) ∧ (∀ k : Nat, k < 1378 → ldI (mset h m S B D E H J L U Z W) (m + 3) (nI k) = some (E k)) ∧ (∀ k : Nat, k < 120 → ldI (mset h m S B D E H J L U Z W) (m + 14) (nI k) = some (L k)) ∧ (∀ k : Nat, k < 54322 → ldI (mset h m S B D E H J L U Z W) (m + 15) (nI k) = some (U k)) ∧ (∀ k : Nat, k < 120 → ldI (mset h m S B D E H J L U Z W) (m + 17) (nI k) = some (W k)) := ⟨fun k hk => ldI_of' ms_1 hk (by omega), fun k hk => ldI_of' ms_2 hk (by omega), fun k hk => ldI_of' ms_3 hk (by omega), fun k hk => ldI_of' ms_14 hk (by omega), fun k hk => ldI_of' ms_15 hk (by omega), fun k hk => ldI_of' ms_17 hk (by omega)⟩
theorem stI_ms : (∀ (k : Nat) (x : Int32), k < 700 → stI (mset h m S B D E H J L U Z W) (m + 1) (nI k) x = some (mset h m S (upd B k x) D E H J L U Z W)) ∧ (∀ (k : Nat) (x : Int32), k < 1378 → stI (mset h m S B D E H J L U Z W) (m + 2) (nI k) x = some (mset h m S B (upd D k x) E H J L U Z W)) ∧ (∀ (k : Nat) (x : Int32), k < 1378 → stI (mset h m S B D E H J L U Z W) (m + 3) (nI k) x = some (mset h m S B D (upd E k x) H J L U Z W)) ∧ (∀ (k : Nat) (x : Int32), k < 120 → stI (mset h m S B D E H J L U Z W) (m + 14) (nI k) x = some (mset h m S B D E H J (upd L k x) U Z W)) ∧ (∀ (k : Nat) (x : Int32), k < 54322 → stI (mset h m S B D E H J L U Z W) (m + 15) (nI k) x = some (mset h m S B D E H J L (upd U k x) Z W)) ∧ (∀ (k : Nat) (x : Int32), k < 120 → stI (mset h m S B D E H J L U Z W) (m + 17) (nI k) x = some (mset h m S B D E H J L U Z (upd W k x))) := ⟨fun k x hk => by rw [stI_of' ms_1 hk (by omega), put_ms1], fun k x hk => by rw [stI_of' ms_2 hk (by omega), put_ms2], fun k x hk => by rw [stI_of' ms_3 hk (by omega), put_ms3], fun k x hk => by rw [stI_of' ms_14 hk (by omega), put_ms14], fun k x hk => by rw [stI_of' ms_15 hk (by omega), put_ms15], fun k x hk => by rw [stI_of' ms_17 hk (by omega), put_ms17]⟩
theorem ldJ_ms {k : Nat} (hk : k < 1200) : ldJ (mset h m S B D E H J L U Z W) (m + 13) (nI k) = some (J k) := ldJ_of' ms_13 hk (by omega)
theorem stJ_ms {k : Nat} {x : Int64} (hk : k < 1200) : stJ (mset h m S B D E H J L U Z W) (m + 13) (nI k) x = some (mset h m S B D E H (vp_updL J k x) L U Z W) := by rw [stJ_of' ms_13 hk (by omega), put_ms13]
theorem ldZ_ms {k : Nat} (hk : k < 30720) : ldZ (mset h m S B D E H J L U Z W) (m + 16) (nI k) = some (Z k) := ldZ_of' ms_16 hk (by omega)
theorem stZ_ms {k : Nat} {x : Int32} (hk : k < 30720) (hx : x = 0 ∨ x = 1) : stZ (mset h m S B D E H J L U Z W) (m + 16) (nI k) x = some (mset h m S B D E H J L U (upd Z k x) W) := by rw [stZ_of' ms_16 hk (by omega) hx, put_ms16]
theorem ldQ_ms {k : Nat} (hk : k < 8) : ldQ (mset h m S B D E H J L U Z W) (m + 4) (nI k) = some (m + 5 + k) := by
  simp [ldQ, ms_4, nI_nn (show k < 2 ^ 31 by omega), nI_clamp (show k < 2 ^ 31 by omega), hk]
theorem ldH_ms {k j : Nat} (hk : k < 8) (hj : j < 1378) : ldI (mset h m S B D E H J L U Z W) (m + 5 + k) (nI j) = some (H k j) := ldI_of' (ms_H hk) hj (by omega)
theorem stH_ms {k j : Nat} {x : Int32} (hk : k < 8) (hj : j < 1378) : stI (mset h m S B D E H J L U Z W) (m + 5 + k) (nI j) x = some (mset h m S B D E (updH H k (upd (H k) j x)) J L U Z W) := by
  rw [stI_of' (ms_H hk) hj (by omega)]
  rcases (show k = 0 ∨ k = 1 ∨ k = 2 ∨ k = 3 ∨ k = 4 ∨ k = 5 ∨ k = 6 ∨ k = 7 by omega) with rfl | rfl | rfl | rfl | rfl | rfl | rfl | rfl
  · exact congrArg some put_ms5
  · exact congrArg some put_ms6
  · exact congrArg some put_ms7
  · exact congrArg some put_ms8
  · exact congrArg some put_ms9
  · exact congrArg some put_ms10
  · exact congrArg some put_ms11
  · exact congrArg some put_ms12
end MSET

/-! ===== the text that the law writes ===== -/
def SegAt (b : Nat → Nat) (len q : Nat) (L : List Nat) : Prop := q + L.length ≤ len ∧ ∀ i, i < L.length → b (q + i) = L.getD i 0
section M70
variable {b : Nat → Nat} {len q : Nat}
theorem SegAt_app {A C : List Nat} (h : SegAt b len q (A ++ C)) : SegAt b len q A ∧ SegAt b len (q + A.length) C := by
  obtain ⟨h1, h2⟩ := h
  rw [List.length_append] at h1 h2
  refine ⟨⟨by omega, fun i hi => ?_⟩, ⟨by omega, fun i hi => ?_⟩⟩
  · rw [h2 i (by omega), getD_l hi]
  · rw [Nat.add_assoc, h2 (A.length + i) (by omega), getD_r]
theorem SegAt_cons {x : Nat} {C : List Nat} (h : SegAt b len q (x :: C)) : (q < len ∧ b q = x) ∧ SegAt b len (q + 1) C := by
  obtain ⟨h1, h2⟩ := SegAt_app (A := [x]) (C := C) h
  obtain ⟨h3, h4⟩ := h1
  have e : q + 1 ≤ len := h3
  exact ⟨⟨by omega, h4 0 Nat.one_pos⟩, h2⟩
/-- a place that is not blank -/
theorem skp_nb (hq : q < len) (hb : b q ≠ 32) : skp b len q = q := by
  unfold skp
  obtain ⟨r, hr⟩ : ∃ r, len - q = r + 1 := ⟨len - q - 1, by omega⟩
  rw [hr, skF, if_neg hb]
theorem skp_b (hq : q < len) (hb : b q = 32) : skp b len q = skp b len (q + 1) := by
  unfold skp
  obtain ⟨r, hr⟩ : ∃ r, len - q = r + 1 := ⟨len - q - 1, by omega⟩
  rw [hr, skF, if_pos hb, show len - (q + 1) = r by omega]
theorem sg_at {c : Nat} (hq : q < len) (hb : b q = c) : sgAt b len q c := ⟨hq, hb⟩
/-- a word -/
theorem wd_seg {i : Nat} (hi : i < 9) (h : SegAt b len q (wdN.getD i [])) (hn : q + wdL i < len → isLt (b (q + wdL i)) = false) : wdAt b len q i := by
  obtain ⟨h1, h2⟩ := h
  exact ⟨h1, h2, fun hl hx => by rw [hn hl] at hx; exact Bool.noConfusion hx⟩
def valF : List Nat → Nat → Nat
  | [], a => a
  | c :: cs, a => valF cs (vstep a c)
theorem dgF_seg : ∀ (ds : List Nat) (q r a : Nat), SegAt b (q + r) q ds → (∀ c, c ∈ ds → isDg c = true) → (ds.length < r → isDg (b (q + ds.length)) = false) → dgF b r q a = (q + ds.length, valF ds a)
  | [], q, r, a, _, _, hn => by
    cases r with
    | zero => rfl
    | succ r =>
      have := hn (Nat.succ_pos r)
      rw [dgF, if_neg (by rw [show b q = b (q + ([] : List Nat).length) from rfl, this]; decide)]
      rfl
  | c :: cs, q, r, a, h, hd, hn => by
    obtain ⟨⟨h1, h2⟩, h3⟩ := SegAt_cons h
    obtain ⟨r', rfl⟩ : ∃ k, r = k + 1 := ⟨r - 1, by omega⟩
    rw [dgF, if_pos (by rw [h2]; exact hd c List.mem_cons_self), h2]
    rw [show q + (r' + 1) = q + 1 + r' by omega] at h3
    rw [dgF_seg cs (q + 1) r' (vstep a c) h3 (fun x hx => hd x (List.mem_cons_of_mem _ hx)) (fun hl => by
      have := hn (by rw [List.length_cons]; omega)
      rw [List.length_cons] at this
      rw [show q + 1 + cs.length = q + (cs.length + 1) by omega]; exact this)]
    rw [List.length_cons, show q + 1 + cs.length = q + (cs.length + 1) by omega]
    rfl
def NumAt (b : Nat → Nat) (len q v q1 : Nat) : Prop := tkK b len q = 1 ∧ tkV b len q = v ∧ tkE b len q = q1
theorem num_seg {ds : List Nat} (h : SegAt b len q ds) (h0 : ds ≠ []) (hd : ∀ c, c ∈ ds → isDg c = true) (hn : q + ds.length < len → isDg (b (q + ds.length)) = false) : NumAt b len q (valF ds 0) (q + ds.length) := by
  obtain ⟨h1, h2⟩ := h
  have hl : 0 < ds.length := List.length_pos_iff.mpr h0
  have hq : q < len := by omega
  obtain ⟨c, cs, rfl⟩ : ∃ c cs, ds = c :: cs := by
    cases ds with
    | nil => exact absurd rfl h0
    | cons c cs => exact ⟨c, cs, rfl⟩
  have hb : b q = c := h2 0 hl
  have hdg : isDg (b q) = true := by rw [hb]; exact hd c List.mem_cons_self
  have key := dgF_seg (b := b) (c :: cs) q (len - q) 0 (by rw [show q + (len - q) = len by omega]; exact ⟨h1, h2⟩) hd (fun hlt => hn (by omega))
  have hnl : ¬ len ≤ q := by omega
  refine ⟨?_, ?_, ?_⟩
  · unfold tkK; rw [if_neg hnl, if_pos hdg]
  · unfold tkV; rw [if_neg hnl, if_pos hdg]; unfold dgs; rw [key]
  · unfold tkE; rw [if_neg hnl, if_pos hdg]; unfold dgs; rw [key]
theorem isDg_48 {x : Nat} (hx : x < 10) : isDg (48 + x) = true := by
  unfold isDg
  rw [Nat.ble_eq_true_of_le (show 48 ≤ 48 + x by omega), Nat.ble_eq_true_of_le (show 48 + x ≤ 57 by omega)]
  rfl
theorem digX_ok {v : Nat} (hv : v < 100000) : digX v ≠ [] ∧ (∀ c, c ∈ digX v → isDg c = true) ∧ valF (digX v) 0 = v ∧ (digX v).length ≤ 5 := by
  unfold digX
  by_cases h1 : v < 10
  · rw [if_pos h1]
    refine ⟨by simp, fun c hc => ?_, ?_, by simp⟩
    · rw [List.mem_singleton.mp hc]; exact isDg_48 h1
    · show vstep 0 _ = v
      unfold vstep; omega
  · rw [if_neg h1]
    by_cases h2 : v < 100
    · rw [if_pos h2]
      refine ⟨by simp, fun c hc => ?_, ?_, by simp⟩
      · simp only [List.mem_cons, List.not_mem_nil, or_false] at hc
        rcases hc with rfl | rfl <;> exact isDg_48 (by omega)
      · show vstep (vstep 0 _) _ = v
        unfold vstep; omega
    · rw [if_neg h2]
      by_cases h3 : v < 1000
      · rw [if_pos h3]
        refine ⟨by simp, fun c hc => ?_, ?_, by simp⟩
        · simp only [List.mem_cons, List.not_mem_nil, or_false] at hc
          rcases hc with rfl | rfl | rfl <;> exact isDg_48 (by omega)
        · show vstep (vstep (vstep 0 _) _) _ = v
          unfold vstep; omega
      · rw [if_neg h3]
        by_cases h4 : v < 10000
        · rw [if_pos h4]
          refine ⟨by simp, fun c hc => ?_, ?_, by simp⟩
          · simp only [List.mem_cons, List.not_mem_nil, or_false] at hc
            rcases hc with rfl | rfl | rfl | rfl <;> exact isDg_48 (by omega)
          · show vstep (vstep (vstep (vstep 0 _) _) _) _ = v
            unfold vstep; omega
        · rw [if_neg h4, if_pos hv]
          refine ⟨by simp, fun c hc => ?_, ?_, by simp⟩
          · simp only [List.mem_cons, List.not_mem_nil, or_false] at hc
            rcases hc with rfl | rfl | rfl | rfl | rfl <;> exact isDg_48 (by omega)
          · show vstep (vstep (vstep (vstep (vstep 0 _) _) _) _) _ = v
            unfold vstep; omega
theorem numDigX {v : Nat} (hv : v < 100000) (h : SegAt b len q (digX v)) (hn : q + (digX v).length < len → isDg (b (q + (digX v).length)) = false) : NumAt b len q v (q + (digX v).length) := by
  obtain ⟨d1, d2, d3, d4⟩ := digX_ok hv
  have := num_seg h d1 d2 hn
  rwa [d3] at this
/-- the first place of a number is not blank -/
theorem dig_nb {v : Nat} (hv : v < 100000) (h : SegAt b len q (digX v)) : skp b len q = q := by
  obtain ⟨d1, d2, d3, d4⟩ := digX_ok hv
  obtain ⟨c, cs, hc⟩ : ∃ c cs, digX v = c :: cs := by
    cases hd : digX v with
    | nil => exact absurd hd d1
    | cons c cs => exact ⟨c, cs, rfl⟩
  rw [hc] at h d2
  obtain ⟨⟨h1, h2⟩, -⟩ := SegAt_cons h
  have := d2 c List.mem_cons_self
  exact skp_nb h1 (by rw [h2]; intro he; subst he; exact absurd this (by decide))
/-- the statements -/
def grX (n : Nat) : List Nat := wdN.getD 0 [] ++ (32 :: (digX n ++ [59]))
def plX (v : Nat) : List Nat := wdN.getD 1 [] ++ (32 :: (digX v ++ [59]))
def caX (p e v : Nat) : List Nat := wdN.getD 2 [] ++ (32 :: (digX p ++ (32 :: (digX e ++ (32 :: (digX v ++ [59]))))))
def loX (v : Nat) : List Nat := wdN.getD 3 [] ++ (32 :: (digX v ++ [59]))
def prX (X : List Nat) : List Nat := wdN.getD 4 [] ++ (32 :: (X ++ [32, 59]))
/-- a word, a blank, a number and a sign -/
theorem sg_num {v : Nat} {c : Nat} {C : List Nat} (hv : v < 100000) (hc : isDg c = false) (h : SegAt b len q (digX v ++ (c :: C))) : skp b len q = q ∧ NumAt b len q v (q + (digX v).length) ∧ (q + (digX v).length < len ∧ b (q + (digX v).length) = c) ∧ SegAt b len (q + (digX v).length + 1) C := by
  obtain ⟨h1, h2⟩ := SegAt_app h
  obtain ⟨h3, h4⟩ := SegAt_cons h2
  exact ⟨dig_nb hv h1, numDigX hv h1 (fun _ => by rw [h3.2]; exact hc), h3, h4⟩
end M70

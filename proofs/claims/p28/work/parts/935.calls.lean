/-! ===== the class's changes through the law ===== -/
def exV (k : Nat) : Int32 := if k = 0 then (-2000000099 : Int32) else if k = 1 then (-2000000098 : Int32) else if k = 2 then (-2000000097 : Int32) else (-2000000100 : Int32)
def rV : Int32 ⊕ Nat → Int32
  | .inl v => v
  | .inr k => exV k
section M935
variable {h : zH} {N b0 : Nat} {s s' : St} {r : Int32 ⊕ Nat}

theorem G_give {x y w : Int32} (hW : WC b0 h s) (hC : CT b0 (f_X8_give N b0 x y w) h r s') (hr : ∀ k, r = .inr k → k = 0 ∨ k = 1 ∨ k = 2) : ∃ h', f_L_give N b0 x y w h = some (rV r, h') ∧ WC b0 h' s' ∧ FC (clW b0) 1 6 h h' := by
  obtain ⟨h', e1, e2, e3⟩ := WR hW hC
  refine ⟨h', ?_, e2, e3⟩
  rw [f_L_give, e1, Option.bind_some]
  cases r with
  | inl v => rfl
  | inr k =>
    rcases hr k rfl with rfl | rfl | rfl <;> rfl
theorem G_discard {x y : Int32} (hW : WC b0 h s) (hC : CT b0 (f_X8_discard N b0 x y) h r s') (hr : ∀ k, r = .inr k → k = 2 ∨ k = 3) : ∃ h', f_L_discard N b0 x y h = some (rV r, h') ∧ WC b0 h' s' ∧ FC (clW b0) 1 6 h h' := by
  obtain ⟨h', e1, e2, e3⟩ := WR hW hC
  refine ⟨h', ?_, e2, e3⟩
  rw [f_L_discard, e1, Option.bind_some]
  cases r with
  | inl v => rfl
  | inr k =>
    rcases hr k rfl with rfl | rfl <;> rfl
theorem G_play {x : Int32} (hW : WC b0 h s) (hC : CT b0 (f_X8_play N b0 x) h r s') (hr : ∀ k, r = .inr k → k = 0 ∨ k = 3) : ∃ h', f_L_play N b0 x h = some (rV r, h') ∧ WC b0 h' s' ∧ FC (clW b0) 1 6 h h' := by
  obtain ⟨h', e1, e2, e3⟩ := WR hW hC
  refine ⟨h', ?_, e2, e3⟩
  rw [f_L_play, e1, Option.bind_some]
  cases r with
  | inl v => rfl
  | inr k =>
    rcases hr k rfl with rfl | rfl <;> rfl
theorem G_cancel {x y : Int32} (hW : WC b0 h s) (hC : CT b0 (f_X8_cancel N b0 x y) h r s') (hr : ∀ k, r = .inr k → k = 0 ∨ k = 3) : ∃ h', f_L_cancel N b0 x y h = some (rV r, h') ∧ WC b0 h' s' ∧ FC (clW b0) 1 6 h h' := by
  obtain ⟨h', e1, e2, e3⟩ := WR hW hC
  refine ⟨h', ?_, e2, e3⟩
  rw [f_L_cancel, e1, Option.bind_some]
  cases r with
  | inl v => rfl
  | inr k =>
    rcases hr k rfl with rfl | rfl <;> rfl
theorem G_pass  (hW : WC b0 h s) (hC : CT b0 (f_X8_pass N b0) h r s') (hr : ∀ k, r = .inr k → k = 0) : ∃ h', f_L_pass N b0 h = some (rV r, h') ∧ WC b0 h' s' ∧ FC (clW b0) 1 6 h h' := by
  obtain ⟨h', e1, e2, e3⟩ := WR hW hC
  refine ⟨h', ?_, e2, e3⟩
  rw [f_L_pass, e1, Option.bind_some]
  cases r with
  | inl v => rfl
  | inr k =>
    rcases hr k rfl with rfl <;> rfl
theorem G_order {x : Int32} (hW : WC b0 h s) (hC : CT b0 (f_X8_order N b0 x) h r s') (hr : ∀ k, r = .inr k → k = 1) : ∃ h', f_L_order N b0 x h = some (rV r, h') ∧ WC b0 h' s' ∧ FC (clW b0) 1 6 h h' := by
  obtain ⟨h', e1, e2, e3⟩ := WR hW hC
  refine ⟨h', ?_, e2, e3⟩
  rw [f_L_order, e1, Option.bind_some]
  cases r with
  | inl v => rfl
  | inr k =>
    rcases hr k rfl with rfl <;> rfl
theorem G_load {x : Int32} (hW : WC b0 h s) (hC : CT b0 (f_X8_load N b0 x) h r s') (hr : ∀ k, r = .inr k → k = 1) : ∃ h', f_L_load N b0 x h = some (rV r, h') ∧ WC b0 h' s' ∧ FC (clW b0) 1 6 h h' := by
  obtain ⟨h', e1, e2, e3⟩ := WR hW hC
  refine ⟨h', ?_, e2, e3⟩
  rw [f_L_load, e1, Option.bind_some]
  cases r with
  | inl v => rfl
  | inr k =>
    rcases hr k rfl with rfl <;> rfl
theorem G_productOf {x y : Int32} (hW : WC b0 h s) (hC : CT b0 (f_X8_productOf N b0 x y) h r s') (hr : ∀ k, r = .inr k → k = 1) : ∃ h', f_L_productOf N b0 x y h = some (rV r, h') ∧ WC b0 h' s' ∧ FC (clW b0) 1 6 h h' := by
  obtain ⟨h', e1, e2, e3⟩ := WR hW hC
  refine ⟨h', ?_, e2, e3⟩
  rw [f_L_productOf, e1, Option.bind_some]
  cases r with
  | inl v => rfl
  | inr k =>
    rcases hr k rfl with rfl <;> rfl
theorem G_reach {x : Int32} (hW : WC b0 h s) (hC : CT b0 (f_X8_reach N b0 x) h r s') (hr : ∀ k, r = .inr k → k = 2) : ∃ h', f_L_reach N b0 x h = some (rV r, h') ∧ WC b0 h' s' ∧ FC (clW b0) 1 6 h h' := by
  obtain ⟨h', e1, e2, e3⟩ := WR hW hC
  refine ⟨h', ?_, e2, e3⟩
  rw [f_L_reach, e1, Option.bind_some]
  cases r with
  | inl v => rfl
  | inr k =>
    rcases hr k rfl with rfl <;> rfl
theorem G_fewest {x : Int32} (hW : WC b0 h s) (hC : CT b0 (f_X8_fewest N b0 x) h r s') (hr : ∀ k, r = .inr k → k = 2) : ∃ h', f_L_fewest N b0 x h = some (rV r, h') ∧ WC b0 h' s' ∧ FC (clW b0) 1 6 h h' := by
  obtain ⟨h', e1, e2, e3⟩ := WR hW hC
  refine ⟨h', ?_, e2, e3⟩
  rw [f_L_fewest, e1, Option.bind_some]
  cases r with
  | inl v => rfl
  | inr k =>
    rcases hr k rfl with rfl <;> rfl
end M935

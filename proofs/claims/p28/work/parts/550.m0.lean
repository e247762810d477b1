theorem zH_ext {h k : zH} (h1 : h.1 = k.1) (h2 : h.2.1 = k.2.1) (h3 : ∀ q, h.2.2 q = k.2.2 q) : h = k := by
  obtain ⟨a, b, f⟩ := h
  obtain ⟨a', b', f'⟩ := k
  cases h1; cases h2
  have : f = f' := funext h3
  subst this
  rfl
theorem hM_put (h : zH) (a q : Nat) (e : zE) : hM (hPut h a e) q = if q = a then some e else hM h q := rfl
theorem hS_put (h : zH) (a : Nat) (e : zE) : hS (hPut h a e) = hS h := rfl
theorem hN_put (h : zH) (a : Nat) (e : zE) : hN (hPut h a e) = hN h := rfl
theorem hM_new (h : zH) (e : zE) (n q : Nat) : hM (hNew h e n) q = if q = hS h then some e else hM h q := rfl
theorem hS_new (h : zH) (e : zE) (n : Nat) : hS (hNew h e n) = hS h + 1 := rfl
theorem hN_new (h : zH) (e : zE) (n : Nat) : hN (hNew h e n) = hN h + n := rfl
theorem hM_junk (h : zH) (n q : Nat) : hM (hJunk h n) q = hM h q := rfl
theorem hS_junk (h : zH) (n : Nat) : hS (hJunk h n) = hS h + 1 := rfl
theorem hN_junk (h : zH) (n : Nat) : hN (hJunk h n) = hN h + n := rfl
/-- a region of cells is set: at a, len of them; where c says nothing the heap stays -/
def rs (h : zH) (a len : Nat) (c : Nat → Option zE) : zH := (h.1, h.2.1, fun q => if a ≤ q ∧ q < a + len then (match c (q - a) with | some e => some e | none => h.2.2 q) else h.2.2 q)
theorem hS_rs (h : zH) (a len : Nat) (c : Nat → Option zE) : hS (rs h a len c) = hS h := rfl
theorem hN_rs (h : zH) (a len : Nat) (c : Nat → Option zE) : hN (rs h a len c) = hN h := rfl
theorem rs_in {h : zH} {a len j : Nat} {c : Nat → Option zE} {e : zE} (hj : j < len) (hc : c j = some e) : hM (rs h a len c) (a + j) = some e := by
  unfold hM rs
  show (if a ≤ a + j ∧ a + j < a + len then _ else _) = _
  rw [if_pos ⟨by omega, by omega⟩, show a + j - a = j by omega, hc]
theorem rs_out {h : zH} {a len q : Nat} {c : Nat → Option zE} (hq : q < a ∨ a + len ≤ q) : hM (rs h a len c) q = hM h q := by
  unfold hM rs
  show (if a ≤ q ∧ q < a + len then _ else _) = _
  rw [if_neg (by omega)]
theorem rs_hole {h : zH} {a len j : Nat} {c : Nat → Option zE} (hc : c j = none) : hM (rs h a len c) (a + j) = hM h (a + j) := by
  unfold hM rs
  show (if a ≤ a + j ∧ a + j < a + len then _ else _) = _
  rw [show a + j - a = j by omega, hc]
  split <;> rfl
theorem rs_put {h : zH} {a len j : Nat} {c : Nat → Option zE} {e : zE} (hj : j < len) : hPut (rs h a len c) (a + j) e = rs h a len (fun k => if k = j then some e else c k) := by
  refine zH_ext rfl rfl fun q => ?_
  show (if q = a + j then some e else if a ≤ q ∧ q < a + len then _ else _) = (if a ≤ q ∧ q < a + len then _ else _)
  by_cases hq : q = a + j
  · subst hq
    rw [if_pos rfl, if_pos ⟨by omega, by omega⟩, show a + j - a = j by omega]
    simp
  · rw [if_neg hq]
    by_cases hr : a ≤ q ∧ q < a + len
    · rw [if_pos hr, if_pos hr]
      have : q - a ≠ j := by omega
      simp [this]
    · rw [if_neg hr, if_neg hr]
theorem rs_ext {h : zH} {a len : Nat} {c c' : Nat → Option zE} (hc : ∀ j, j < len → c j = c' j) : rs h a len c = rs h a len c' := by
  refine zH_ext rfl rfl fun q => ?_
  show (if a ≤ q ∧ q < a + len then _ else _) = (if a ≤ q ∧ q < a + len then _ else _)
  by_cases hr : a ≤ q ∧ q < a + len
  · rw [if_pos hr, if_pos hr, hc (q - a) (by omega)]
  · rw [if_neg hr, if_neg hr]
/-- a heap that holds the region's cells is its own setting -/
theorem rs_self {h : zH} {a len : Nat} {c : Nat → Option zE} (hc : ∀ j e, j < len → c j = some e → hM h (a + j) = some e) : rs h a len c = h := by
  refine zH_ext rfl rfl fun q => ?_
  show (if a ≤ q ∧ q < a + len then _ else _) = h.2.2 q
  by_cases hr : a ≤ q ∧ q < a + len
  · rw [if_pos hr]
    cases hcc : c (q - a) with
    | none => rfl
    | some e =>
      have := hc (q - a) e (by omega) hcc
      rw [show a + (q - a) = q by omega] at this
      exact this.symm
  · rw [if_neg hr]
theorem rs_rs {h : zH} {a len : Nat} {c c' : Nat → Option zE} (hc : ∀ j, j < len → c' j = none → c j = none) : rs (rs h a len c) a len c' = rs h a len c' := by
  refine zH_ext rfl rfl fun q => ?_
  show (if a ≤ q ∧ q < a + len then (match c' (q - a) with | some e => some e | none => (if a ≤ q ∧ q < a + len then _ else _)) else (if a ≤ q ∧ q < a + len then _ else _)) = (if a ≤ q ∧ q < a + len then _ else _)
  by_cases hr : a ≤ q ∧ q < a + len
  · rw [if_pos hr, if_pos hr, if_pos hr]
    cases hcc : c' (q - a) with
    | none =>
      rw [hc (q - a) (by omega) hcc]
    | some e => rfl
  · rw [if_neg hr, if_neg hr, if_neg hr]
theorem rs_comm {h : zH} {a len a' len' : Nat} {c c' : Nat → Option zE} (hd : a + len ≤ a' ∨ a' + len' ≤ a) : rs (rs h a len c) a' len' c' = rs (rs h a' len' c') a len c := by
  refine zH_ext rfl rfl fun q => ?_
  show (if a' ≤ q ∧ q < a' + len' then (match c' (q - a') with | some e => some e | none => (if a ≤ q ∧ q < a + len then _ else _)) else (if a ≤ q ∧ q < a + len then _ else _)) = (if a ≤ q ∧ q < a + len then (match c (q - a) with | some e => some e | none => (if a' ≤ q ∧ q < a' + len' then _ else _)) else (if a' ≤ q ∧ q < a' + len' then _ else _))
  by_cases h1 : a ≤ q ∧ q < a + len
  · have h2 : ¬ (a' ≤ q ∧ q < a' + len') := by omega
    simp only [if_neg h2, if_pos h1]
  · by_cases h2 : a' ≤ q ∧ q < a' + len'
    · simp only [if_pos h2, if_neg h1]
    · simp only [if_neg h2, if_neg h1]
theorem put_rs {h : zH} {a len q : Nat} {c : Nat → Option zE} {e : zE} (hq : q < a ∨ a + len ≤ q) : hPut (rs h a len c) q e = rs (hPut h q e) a len c := by
  refine zH_ext rfl rfl fun p => ?_
  show (if p = q then some e else if a ≤ p ∧ p < a + len then _ else _) = (if a ≤ p ∧ p < a + len then (match c (p - a) with | some e => some e | none => (if p = q then _ else _)) else (if p = q then _ else _))
  by_cases h1 : p = q
  · subst h1
    rw [if_pos rfl, if_neg (by omega), if_pos rfl]
  · rw [if_neg h1, if_neg h1]
theorem put_rsh {h : zH} {a len j : Nat} {c : Nat → Option zE} {e : zE} (hc : c j = none) : hPut (rs h a len c) (a + j) e = rs (hPut h (a + j) e) a len c := by
  refine zH_ext rfl rfl fun p => ?_
  show (if p = a + j then some e else if a ≤ p ∧ p < a + len then _ else _) = (if a ≤ p ∧ p < a + len then (match c (p - a) with | some e => some e | none => (if p = a + j then _ else _)) else (if p = a + j then _ else _))
  by_cases h1 : p = a + j
  · subst h1
    rw [if_pos rfl, show a + j - a = j by omega, hc, if_pos rfl]
    split <;> rfl
  · rw [if_neg h1, if_neg h1]
theorem new_rs {h : zH} {a len n : Nat} {c : Nat → Option zE} {e : zE} (hq : a + len ≤ hS h) : hNew (rs h a len c) e n = rs (hNew h e n) a len c := by
  refine zH_ext rfl rfl fun p => ?_
  show (if p = h.1 then some e else if a ≤ p ∧ p < a + len then _ else _) = (if a ≤ p ∧ p < a + len then (match c (p - a) with | some e => some e | none => (if p = h.1 then _ else _)) else (if p = h.1 then _ else _))
  have : hS h = h.1 := rfl
  by_cases h1 : p = h.1
  · subst h1
    rw [if_pos rfl, if_neg (by omega), if_pos rfl]
  · rw [if_neg h1, if_neg h1]
theorem junk_rs {h : zH} {a len n : Nat} {c : Nat → Option zE} : hJunk (rs h a len c) n = rs (hJunk h n) a len c := rfl
theorem gI_of' {h : zH} {a c k : Nat} {fs : List Value} {x : Int32} (hm : hM h a = some (.inr (c, fs))) (hx : fs[k]? = some (.int x)) : gI h a c k = some x := by
  simp [gI, gF, hm, hx]
theorem gA_of' {h : zH} {a c k : Nat} {fs : List Value} {x : Nat} (hm : hM h a = some (.inr (c, fs))) (hx : fs[k]? = some (.ref x)) : gA h a c k = some x := by
  simp [gA, gF, hm, hx]
theorem pF_of' {h : zH} {a c k : Nat} {fs : List Value} {v : Value} (hm : hM h a = some (.inr (c, fs))) (hk : k < fs.length) : pF h a c k v = some (hPut h a (.inr (c, fs.set k v))) := by
  simp [pF, hm, hk]
theorem onO_of' {β : Type} {h : zH} {a c : Nat} {fs : List Value} {F : Option β} (hm : hM h a = some (.inr (c, fs))) : onO c a h F = F := by
  simp [onO, hm]
theorem nI_nn {k : Nat} (hk : k < 2 ^ 31) : ¬ nI k < 0 := nI_pos hk
theorem ldI_of' {h : zH} {a n k : Nat} {f : Nat → Int32} (hm : hM h a = some (.inl (0, n, .inl f))) (hk : k < n) (hn : k < 2 ^ 31) : ldI h a (nI k) = some (f k) := by
  simp [ldI, hm, nI_nn hn, nI_clamp hn, hk]
theorem ldJ_of' {h : zH} {a n k : Nat} {f : Nat → Int64} (hm : hM h a = some (.inl (1, n, .inr (.inl f)))) (hk : k < n) (hn : k < 2 ^ 31) : ldJ h a (nI k) = some (f k) := by
  simp [ldJ, hm, nI_nn hn, nI_clamp hn, hk]
theorem stI_of' {h : zH} {a n k : Nat} {f : Nat → Int32} {x : Int32} (hm : hM h a = some (.inl (0, n, .inl f))) (hk : k < n) (hn : k < 2 ^ 31) : stI h a (nI k) x = some (hPut h a (.inl (0, n, .inl (upd f k x)))) := by
  simp [stI, hm, nI_nn hn, nI_clamp hn, hk]
theorem stJ_of' {h : zH} {a n k : Nat} {f : Nat → Int64} {x : Int64} (hm : hM h a = some (.inl (1, n, .inr (.inl f)))) (hk : k < n) (hn : k < 2 ^ 31) : stJ h a (nI k) x = some (hPut h a (.inl (1, n, .inr (.inl (vp_updL f k x))))) := by
  simp [stJ, hm, nI_nn hn, nI_clamp hn, hk]
theorem aLen_of' {h : zH} {a k n : Nat} {x : _} (hm : hM h a = some (.inl (k, n, x))) (hk : k < 8) : aLen h a = some (nI n) := by
  simp [aLen, hm, hk]; rfl
theorem zB_0 : zB 0 = some 0 := by simp [zB]
theorem zB_1 : zB 1 = some 1 := by simp [zB]
/-- a truth as an int -/
def b2 (b : Bool) : Int32 := if b then 1 else 0
theorem b2_t : b2 true = 1 := rfl
theorem b2_f : b2 false = 0 := rfl
theorem zB_b2 (b : Bool) : zB (b2 b) = some (b2 b) := by cases b <;> simp [zB, b2]
theorem b2_eq0 (b : Bool) : b2 b = 0 ↔ b = false := by cases b <;> simp [b2]
theorem b2_eq1 (b : Bool) : b2 b = 1 ↔ b = true := by cases b <;> simp [b2]

/-! ===== the model's loops over its data ===== -/
/-- r numbers from s on come from o places further -/
def shN (d : Nat → Nat) (s r o : Nat) : Nat → Nat := fun j => if s ≤ j ∧ j < s + r then d (j + o) else d j
theorem shN_0 (d : Nat → Nat) (s o : Nat) : shN d s 0 o = d := by
  funext j
  unfold shN
  rw [if_neg (by omega)]
theorem shN_step (d : Nat → Nat) (s r o : Nat) (ho : 0 < o) : shN (upN d s (d (s + o))) (s + 1) r o = shN d s (r + 1) o := by
  funext j
  unfold shN upN
  by_cases h1 : j = s
  · subst h1
    rw [if_neg (by omega), if_pos rfl, if_pos (by omega)]
  · by_cases h2 : s ≤ j ∧ j < s + (r + 1)
    · rw [if_pos (by omega), if_pos h2, if_neg (by omega)]
    · rw [if_neg (by omega), if_neg h2, if_neg h1]
theorem shN_out {d : Nat → Nat} {s r o j : Nat} (hj : j < s ∨ s + r ≤ j) : shN d s r o j = d j := if_neg (by omega)
theorem shN_in {d : Nat → Nat} {s r o j : Nat} (h1 : s ≤ j) (h2 : j < s + r) : shN d s r o j = d (j + o) := if_pos ⟨h1, h2⟩
/-- the product of elements from a place on -/
def prodF (e : Nat → Nat) : Nat → Nat → Nat → Nat
  | 0, _, acc => acc
  | r + 1, k, acc => prodF e r (k + 1) (mulN acc (e k))
theorem prodF_in {n : Nat} (hn : inN n) (e : Nat → Nat) : ∀ r k acc : Nat, acc < fctN n → (∀ j, k ≤ j → j < k + r → e j < fctN n) → prodF e r k acc < fctN n
  | 0, _, acc, ha, _ => ha
  | r + 1, k, acc, ha, he => prodF_in hn e r (k + 1) _ (mul_in hn ha (he k (by omega) (by omega))) (fun j h1 h2 => he j (by omega) (by omega))
def cpyI (F G : Nat → Int32) : Nat → Int32 := fun j => if j < 1378 then F j else G j
theorem cpyI_in {F G : Nat → Int32} {j : Nat} (hj : j < 1378) : cpyI F G j = F j := if_pos hj
theorem hPut_hPut (h : zH) (a : Nat) (e f : zE) : hPut (hPut h a e) a f = hPut h a f := by
  refine zH_ext rfl rfl fun q => ?_
  show (if q = a then some f else if q = a then some e else _) = (if q = a then some f else _)
  split <;> rfl
theorem hPut_self {h : zH} {a : Nat} {e : zE} (he : hM h a = some e) : hPut h a e = h := by
  refine zH_ext rfl rfl fun q => ?_
  show (if q = a then some e else h.2.2 q) = h.2.2 q
  split
  · next hq => subst hq; exact he.symm
  · rfl
theorem m_copy_l {N v0 v1 : Nat} {F : Nat → Int32} (hne : v0 ≠ v1) : ∀ (r k f : Nat) (G : Nat → Int32) (h : zH), k + r = 1378 → r < f → hM h v0 = some (.inl (0, 1378, .inl F)) → hM h v1 = some (.inl (0, 1378, .inl G)) → f_X9_copy_l2 N v0 v1 f (nI k) h = some (hPut h v1 (.inl (0, 1378, .inl (fun j => if k ≤ j ∧ j < 1378 then F j else G j)))) := by
  intro r
  induction r with
  | zero =>
    intro f' f G h hk hf h0 h1
    obtain ⟨f, rfl⟩ : ∃ m, f = m + 1 := ⟨f - 1, by omega⟩
    have c : ((1378 : Int32) ≤ nI f') = (1378 ≤ f') := nle (a := 1378) (by omega) (by omega)
    have e : (fun j => if f' ≤ j ∧ j < 1378 then F j else G j) = G := by
      funext j
      rw [if_neg (by omega)]
    rw [f_X9_copy_l2, if_pos (by rw [c]; omega), e, hPut_self h1]
  | succ r ih =>
    intro k f G h hk hf h0 h1
    obtain ⟨f, rfl⟩ : ∃ m, f = m + 1 := ⟨f - 1, by omega⟩
    have c : ((1378 : Int32) ≤ nI k) = (1378 ≤ k) := nle (a := 1378) (by omega) (by omega)
    have e2 : nI k + (1 : Int32) = nI (k + 1) := nadd k 1
    rw [f_X9_copy_l2, if_neg (by rw [c]; omega), ldI_of' h0 (by omega) (by omega), Option.bind_some, stI_of' h1 (by omega) (by omega), Option.bind_some, e2]
    rw [ih (k + 1) f (upd G k (F k)) _ (by omega) (by omega) (by rw [hM_put, if_neg hne, h0]) (by rw [hM_put, if_pos rfl]), hPut_hPut]
    have e : (fun j => if k + 1 ≤ j ∧ j < 1378 then F j else upd G k (F k) j) = (fun j => if k ≤ j ∧ j < 1378 then F j else G j) := by
      funext j
      by_cases hj : j = k
      · subst hj
        rw [if_neg (by omega), if_pos (by omega), upS_eq]
      · rw [upS_ne hj]
        by_cases hr : k ≤ j ∧ j < 1378
        · rw [if_pos (by omega), if_pos hr]
        · rw [if_neg (by omega), if_neg hr]
    rw [e]
theorem m_copy {N v0 v1 : Nat} {F G : Nat → Int32} {h : zH} (hN : 1400 < N) (hne : v0 ≠ v1) (h0 : hM h v0 = some (.inl (0, 1378, .inl F))) (h1 : hM h v1 = some (.inl (0, 1378, .inl G))) : f_X9_copy N v0 v1 h = some (hPut h v1 (.inl (0, 1378, .inl (cpyI F G)))) := by
  have e : (fun j => if 0 ≤ j ∧ j < 1378 then F j else G j) = cpyI F G := by
    funext j
    unfold cpyI
    by_cases hj : j < 1378
    · rw [if_pos (by omega), if_pos hj]
    · rw [if_neg (by omega), if_neg hj]
  have := m_copy_l (N := N) (F := F) hne 1378 0 N G h (by omega) (by omega) h0 h1
  rw [e] at this
  exact this
theorem updH_eq (H : Nat → Nat → Int32) (k : Nat) (f : Nat → Int32) : updH H k f k = f := if_pos rfl
theorem updH_ne {H : Nat → Nat → Int32} {k j : Nat} {f : Nat → Int32} (hj : j ≠ k) : updH H k f j = H j := if_neg hj
section M62
variable {h : zH} {m N : Nat} {S B D E : Nat → Int32} {H : Nat → Nat → Int32} {J : Nat → Int64} {L U Z W : Nat → Int32} {d : Nat → Nat}
theorem put_H {k : Nat} {f : Nat → Int32} (hk : k < 8) : hPut (mset h m S B D E H J L U Z W) (m + 5 + k) (.inl (0, 1378, .inl f)) = mset h m S B D E (updH H k f) J L U Z W := by
  rcases (show k = 0 ∨ k = 1 ∨ k = 2 ∨ k = 3 ∨ k = 4 ∨ k = 5 ∨ k = 6 ∨ k = 7 by omega) with rfl | rfl | rfl | rfl | rfl | rfl | rfl | rfl
  · exact put_ms5
  · exact put_ms6
  · exact put_ms7
  · exact put_ms8
  · exact put_ms9
  · exact put_ms10
  · exact put_ms11
  · exact put_ms12
theorem m_copyDH (hN : 1400 < N) {k : Nat} (hk : k < 8) : f_X9_copy N (m + 2) (m + 5 + k) (mset h m S B D E H J L U Z W) = some (mset h m S B D E (updH H k (cpyI D (H k))) J L U Z W) := by
  rw [m_copy hN (by omega) ms_2 (ms_H hk), put_H hk]
theorem m_copyHH (hN : 1400 < N) {k j : Nat} (hk : k < 8) (hj : j < 8) (hkj : k ≠ j) : f_X9_copy N (m + 5 + k) (m + 5 + j) (mset h m S B D E H J L U Z W) = some (mset h m S B D E (updH H j (cpyI (H k) (H j))) J L U Z W) := by
  rw [m_copy hN (by omega) (ms_H hk) (ms_H hj), put_H hj]
theorem m_copyHD (hN : 1400 < N) {k : Nat} (hk : k < 8) : f_X9_copy N (m + 5 + k) (m + 2) (mset h m S B D E H J L U Z W) = some (mset h m S B (cpyI (H k) D) E H J L U Z W) := by
  rw [m_copy hN (by omega) (ms_H hk) ms_2, put_ms2]
theorem m_copyED (hN : 1400 < N) : f_X9_copy N (m + 3) (m + 2) (mset h m S B D E H J L U Z W) = some (mset h m S B (cpyI E D) E H J L U Z W) := by
  rw [m_copy hN (by omega) ms_3 ms_2, put_ms2]
theorem m_remember_l (hN : 1400 < N) (k1 : zH → Option zH) : ∀ (r k f : Nat) (H0 : Nat → Nat → Int32), k + r = 8 → 1 ≤ k → r < f → ∃ H', f_X9_remember_l11 N m k1 f (nI k) (mset h m S B D E H0 J L U Z W) = k1 (mset h m S B D E H' J L U Z W) ∧ (∀ j i, i < 1378 → k - 1 ≤ j → j < 7 → H' j i = H0 (j + 1) i) ∧ (∀ j, j < k - 1 ∨ 7 ≤ j → H' j = H0 j) := by
  intro r
  induction r with
  | zero =>
    intro k f H0 hk h1 hf
    obtain ⟨f, rfl⟩ : ∃ m, f = m + 1 := ⟨f - 1, by omega⟩
    refine ⟨H0, ?_, fun j i _ h1 h2 => absurd h1 (by omega), fun _ _ => rfl⟩
    simp (disch := omega) only [f_X9_remember_l11, nlit, nlt, nle, neq, nadd, nmul, nsub, if_pos, if_neg, Option.bind_some, onO_ms, gI_ms, gA_ms, pF_ms, ldI_ms, stI_ms, dI_app, updI, upN_eq, upN_ne, Nat.add_zero, Nat.zero_add]
  | succ r ih =>
    intro k f H0 hk h1 hf
    obtain ⟨f, rfl⟩ : ∃ m, f = m + 1 := ⟨f - 1, by omega⟩
    obtain ⟨H', e1, e2, e3⟩ := ih (k + 1) f (updH H0 (k - 1) (cpyI (H0 k) (H0 (k - 1)))) (by omega) (by omega) (by omega)
    refine ⟨H', ?_, ?_, ?_⟩
    · simp (disch := omega) only [f_X9_remember_l11, ldQ_ms, m_copyHH hN, nlit, nlt, nle, neq, nadd, nmul, nsub, if_pos, if_neg, Option.bind_some, onO_ms, gI_ms, gA_ms, pF_ms, ldI_ms, stI_ms, dI_app, updI, upN_eq, upN_ne, Nat.add_zero, Nat.zero_add]
      exact e1
    · intro j i hi hj hj2
      by_cases hjk : j = k - 1
      · rw [e3 j (by omega), hjk, updH_eq, cpyI_in hi, show k - 1 + 1 = k by omega]
      · rw [e2 j i hi (by omega) hj2, updH_ne (by omega)]
    · intro j hj
      rw [e3 j (by omega), updH_ne (by omega)]
/-- how many are forgotten first -/
def forg (q : Nat) : Nat := if q = 8 then 1 else 0
theorem m_remember (hN : 1400 < N) {q : Nat} (hq : q ≤ 8) (hS : S 11 = nI q) : ∃ H', f_X9_remember N m (mset h m S B D E H J L U Z W) = some (mset h m (upd S 11 (nI (q - forg q + 1))) B D E H' J L U Z W) ∧ (∀ i, i < 1378 → H' (q - forg q) i = D i) ∧ (∀ j i, j < q - forg q → i < 1378 → H' j i = H (j + forg q) i) := by
  have tail : ∀ (T : Nat → Int32) (k : Nat) (K : Nat → Nat → Int32), T 11 = nI k → k < 8 → f_X9_remember_j50 N m (mset h m T B D E K J L U Z W) = some (mset h m (upd T 11 (nI (k + 1))) B D E (updH K k (cpyI D (K k))) J L U Z W) := by
    intro T k K hT hk
    simp (disch := omega) only [f_X9_remember_j50, ldQ_ms, m_copyDH hN, nlit, nlt, nle, neq, nadd, nmul, nsub, if_pos, if_neg, Option.bind_some, onO_ms, gI_ms, gA_ms, pF_ms, ldI_ms, stI_ms, dI_app, updI, upN_eq, upN_ne, Nat.add_zero, Nat.zero_add, hT]
  by_cases h8 : q = 8
  · subst h8
    obtain ⟨H', e1, e2, e3⟩ := m_remember_l (h := h) (m := m) (S := S) (B := B) (D := D) (E := E) (J := J) (L := L) (U := U) (Z := Z) (W := W) hN (fun (h14 : zH) => (gI h14 m 9 11).bind fun x15 => (pF h14 m 9 11 (.int (x15 - (1 : Int32)))).bind fun h16 => f_X9_remember_j50 N m h16) 7 1 N H (by omega) (by omega) (by omega)
    refine ⟨updH H' 7 (cpyI D (H' 7)), ?_, ?_, ?_⟩
    · rw [f_X9_remember, gI_ms.2.2.2.2.2.2.2.1, Option.bind_some, hS, if_pos (by decide)]
      refine Eq.trans e1 ?_
      have e7 : nI 8 - (1 : Int32) = nI 7 := by decide
      simp only [gI_ms, Option.bind_some, hS, e7, pF_ms]
      rw [tail (upd S 11 (nI 7)) 7 H' (upS_eq _ _ _) (by omega), upS_upS]
      rfl
    · intro i hi
      rw [show 8 - forg 8 = 7 from rfl, updH_eq, cpyI_in hi]
    · intro j i hj hi
      rw [show 8 - forg 8 = 7 from rfl] at hj
      rw [updH_ne (by omega), e2 j i hi (by omega) hj]
      rfl
  · have f0 : forg q = 0 := if_neg h8
    refine ⟨updH H q (cpyI D (H q)), ?_, ?_, ?_⟩
    · have c : ¬ nI q = (8 : Int32) := by
        have c' : (nI q = (8 : Int32)) = (q = 8) := neq (b := 8) (by omega) (by omega)
        rw [c']
        exact h8
      rw [f_X9_remember, gI_ms.2.2.2.2.2.2.2.1, Option.bind_some, hS, if_neg c, tail S q H hS (by omega), f0, Nat.sub_zero]
    · intro i hi
      rw [f0, Nat.sub_zero, updH_eq, cpyI_in hi]
    · intro j i hj hi
      rw [f0, Nat.sub_zero] at hj
      rw [f0, Nat.add_zero, updH_ne (by omega)]
theorem m_drop_l {a : Nat} (ha : a ≤ 100) : ∀ (r k f : Nat) (d : Nat → Nat), k + r = 2 * d (a + 1) → k + r ≤ 20 → r < f → f_X9_dropCard_l22 N m (nI a) f (nI k) (mset h m S B (dI d) E H J L U Z W) = some (mset h m S B (dI (shN d (a + 3 + k) r 2)) E H J L U Z W) := by
  intro r
  induction r with
  | zero =>
    intro k f d hk h2 hf
    obtain ⟨f, rfl⟩ : ∃ m, f = m + 1 := ⟨f - 1, by omega⟩
    rw [shN_0]
    simp (disch := omega) only [f_X9_dropCard_l22, nlit, nlt, nle, neq, nadd, nmul, nsub, if_pos, if_neg, Option.bind_some, onO_ms, gI_ms, gA_ms, pF_ms, ldI_ms, stI_ms, dI_app, updI, upN_eq, upN_ne, Nat.add_zero, Nat.zero_add]
  | succ r ih =>
    intro k f d hk h2 hf
    obtain ⟨f, rfl⟩ : ∃ m, f = m + 1 := ⟨f - 1, by omega⟩
    simp (disch := omega) only [f_X9_dropCard_l22, nlit, nlt, nle, neq, nadd, nmul, nsub, if_pos, if_neg, Option.bind_some, onO_ms, gI_ms, gA_ms, pF_ms, ldI_ms, stI_ms, dI_app, updI, upN_eq, upN_ne, Nat.add_zero, Nat.zero_add]
    rw [ih (k + 1) f _ (by rw [upN_ne (by omega)]; omega) (by omega) (by omega), ← Nat.add_assoc, shN_step _ _ _ _ (by omega)]
/-- a card is dropped -/
def dropN (d : Nat → Nat) (p c : Nat) : Nat → Nat := shN (upN d (11 + 19 * p + 1) (d (11 + 19 * p + 1) - 1)) (11 + 19 * p + 3 + 2 * c) (2 * (d (11 + 19 * p + 1) - 1 - c)) 2
theorem m_dropCard (hN : 100 < N) {p c : Nat} (hp : p < 5) (hc : c < d (11 + 19 * p + 1)) (h8 : d (11 + 19 * p + 1) ≤ 8) : f_X9_dropCard N m (nI p) (nI c) (mset h m S B (dI d) E H J L U Z W) = some (mset h m S B (dI (dropN d p c)) E H J L U Z W) := by
  have e := m_drop_l (N := N) (h := h) (m := m) (S := S) (B := B) (E := E) (H := H) (J := J) (L := L) (U := U) (Z := Z) (W := W) (a := 11 + 19 * p) (by omega) (2 * (d (11 + 19 * p + 1) - 1 - c)) (2 * c) N (upN d (11 + 19 * p + 1) (d (11 + 19 * p + 1) - 1)) (by rw [upN_eq]; omega) (by omega) (by omega)
  simp (disch := omega) only [f_X9_dropCard, m_at, nlit, nlt, nle, neq, nadd, nmul, nsub, if_pos, if_neg, Option.bind_some, onO_ms, gI_ms, gA_ms, pF_ms, ldI_ms, stI_ms, dI_app, updI, upN_eq, upN_ne, Nat.add_zero, Nat.zero_add]
  exact e
/-- the elements of the bids -/
def idxN (n v : Nat) : Nat := (eltN n v).getD 0
theorem idx_num {n e : Nat} (hn : inN n) (he : e < fctN n) : idxN n (numN n e) = e := by
  unfold idxN
  rw [elt_num hn he]
  rfl
def isN (n v : Nat) : Prop := ∃ e, e < fctN n ∧ v = numN n e
theorem isN_idx {n v : Nat} (hn : inN n) (hv : isN n v) : idxN n v < fctN n ∧ v = numN n (idxN n v) := by
  obtain ⟨e, he, rfl⟩ := hv
  rw [idx_num hn he]
  exact ⟨he, rfl⟩
def bidE (d : Nat → Nat) (k : Nat) : Nat := idxN (d 0) (d (118 + 3 * k + 1))
theorem m_prod_l (hN : 10 < N) (hn : inN (d 0)) {t : Nat} (ht : t ≤ 20) (hb : ∀ k, k < t → isN (d 0) (d (118 + 3 * k + 1))) : ∀ (r k f acc : Nat), k + r = t → r < f → acc < fctN (d 0) → f_X9_productBetween_l13 N m (nI t) f (nI (numN (d 0) acc)) (nI k) (mset h m S B (dI d) E H J L U Z W) = some (nI (numN (d 0) (prodF (bidE d) r k acc)), (mset h m S B (dI d) E H J L U Z W)) := by
  intro r
  induction r with
  | zero =>
    intro k f acc hk hf ha
    obtain ⟨f, rfl⟩ : ∃ m, f = m + 1 := ⟨f - 1, by omega⟩
    simp (disch := omega) only [f_X9_productBetween_l13, nlit, nlt, nle, neq, nadd, nmul, nsub, if_pos, if_neg, Option.bind_some, onO_ms, gI_ms, gA_ms, pF_ms, ldI_ms, stI_ms, dI_app, updI, upN_eq, upN_ne, Nat.add_zero, Nat.zero_add]
    rfl
  | succ r ih =>
    intro k f acc hk hf ha
    obtain ⟨f, rfl⟩ : ∃ m, f = m + 1 := ⟨f - 1, by omega⟩
    obtain ⟨e1, e2⟩ := isN_idx hn (hb k (by omega))
    have hn5 := inN_le hn
    have e3 : d (118 + 3 * k + 1) = numN (d 0) (bidE d k) := e2
    simp (disch := omega) only [f_X9_productBetween_l13, m_ofBid, nlit, nlt, nle, neq, nadd, nmul, nsub, if_pos, if_neg, Option.bind_some, onO_ms, gI_ms, gA_ms, pF_ms, ldI_ms, stI_ms, dI_app, updI, upN_eq, upN_ne, Nat.add_zero, Nat.zero_add]
    have e4 : bidE d k < fctN (d 0) := e1
    rw [e3, m_times hN hn ha e4, Option.bind_some]
    exact ih (k + 1) f _ (by omega) (by omega) (mul_in hn ha e4)
theorem m_productBetween (hN : 100 < N) (hn : inN (d 0)) {s t : Nat} (hst : s ≤ t) (ht : t ≤ 20) (hb : ∀ k, k < t → isN (d 0) (d (118 + 3 * k + 1))) : f_X9_productBetween N m (nI s) (nI t) (mset h m S B (dI d) E H J L U Z W) = some (nI (numN (d 0) (prodF (bidE d) (t - s) s 0)), (mset h m S B (dI d) E H J L U Z W)) := by
  simp (disch := omega) only [f_X9_productBetween, m_neutral hn, nlit, nlt, nle, neq, nadd, nmul, nsub, if_pos, if_neg, Option.bind_some, onO_ms, gI_ms, gA_ms, pF_ms, ldI_ms, stI_ms, dI_app, updI, upN_eq, upN_ne, Nat.add_zero, Nat.zero_add]
  exact m_prod_l (by omega) hn ht hb (t - s) s N 0 (by omega) (by omega) (Nat.lt_trans Nat.zero_lt_one (fct_pos hn))
theorem m_productNow (hN : 100 < N) (hn : inN (d 0)) (ht : d 5 ≤ 20) (hb : ∀ k, k < d 5 → isN (d 0) (d (118 + 3 * k + 1))) : f_X9_productNow N m (mset h m S B (dI d) E H J L U Z W) = some (nI (numN (d 0) (prodF (bidE d) (d 5) 0 0)), (mset h m S B (dI d) E H J L U Z W)) := by
  simp (disch := omega) only [f_X9_productNow, nlit, nlt, nle, neq, nadd, nmul, nsub, if_pos, if_neg, Option.bind_some, onO_ms, gI_ms, gA_ms, pF_ms, ldI_ms, stI_ms, dI_app, updI, upN_eq, upN_ne, Nat.add_zero, Nat.zero_add]
  have := m_productBetween (h := h) (m := m) (S := S) (B := B) (E := E) (H := H) (J := J) (L := L) (U := U) (Z := Z) (W := W) hN hn (s := 0) (t := d 5) (by omega) ht hb
  rw [Nat.sub_zero] at this
  rw [this]
  rfl
end M62

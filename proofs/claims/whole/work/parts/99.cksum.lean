/-! ===== pairs: undo, checksum ===== -/
def ck (v : Int64) (x : Int32) : Int64 := (31 : Int64) * v + x.toInt64
def ckF (f : Nat → Int32) : Nat → Nat → Int64 → Int64
  | 0, _, v => v
  | r + 1, k, v => ckF f r (k + 1) (ck v (f k))
def cardV (d : Nat → Nat) (K : Nat) (t : Nat → Nat) (p c w : Nat) : Int32 := if w = 0 then nI (d (11 + 19 * p + 3 + 2 * c)) else if w = 1 then nI (d (11 + 19 * p + 3 + 2 * c + 1)) else nI (priT d K t p c)
def cardsF (d : Nat → Nat) (K : Nat) (t : Nat → Nat) (p : Nat) : Nat → Nat → Int64 → Int64
  | 0, _, v => v
  | r + 1, c, v => cardsF d K t p r (c + 1) (ckF (cardV d K t p c) 3 0 v)
def playsF (d : Nat → Nat) (K : Nat) (t : Nat → Nat) : Nat → Nat → Int64 → Int64
  | 0, _, v => v
  | r + 1, p, v => playsF d K t r (p + 1) (cardsF d K t p (d (11 + 19 * p + 1)) 0 (ckF (fun w => nI (d (11 + 19 * p + w))) 3 0 v))
def bidsF (d : Nat → Nat) : Nat → Nat → Int64 → Int64
  | 0, _, v => v
  | r + 1, b, v => bidsF d r (b + 1) (ckF (fun w => nI (d (118 + 3 * b + w))) 3 0 v)
theorem bidsF_flat (d : Nat → Nat) : ∀ r b v, bidsF d r b v = ckF (fun k => nI (d (118 + k))) (3 * r) (3 * b) v
  | 0, _, _ => rfl
  | r + 1, b, v => by
    show bidsF d r (b + 1) _ = _
    rw [bidsF_flat d r (b + 1), show 3 * (r + 1) = 3 * r + 1 + 1 + 1 by omega]
    show _ = ckF _ (3 * r) (3 * b + 1 + 1 + 1) _
    rw [show 3 * (b + 1) = 3 * b + 1 + 1 + 1 by omega]
    rfl
def ckS (d : Nat → Nat) (K : Nat) (t : Nat → Nat) : Int64 := ck (bidsF d (d 5) 0 (playsF d K t (d 1) 0 (ckF (toldN d) 9 0 0))) (nI (numN (d 0) (prodF (bidE d) (d 5) 0 0)))
theorem FrA_rf {b0 : Nat} {h : zH} : FrA b0 h h := ⟨fun _ _ => simc_rf, rfl, rfl, fun _ _ _ => rfl⟩
theorem FrA_tr {b0 : Nat} {h h1 h2 : zH} (f1 : FrA b0 h h1) (f2 : FrA b0 h1 h2) : FrA b0 h h2 := ⟨fun q hq => simc_tr (f1.1 q hq) (f2.1 q hq), f2.2.1.trans f1.2.1, f2.2.2.1.trans f1.2.2.1, fun q a b => (f2.2.2.2 q a b).trans (f1.2.2.2 q a b)⟩
section M99m
variable {h : zH} {m N : Nat} {S B E : Nat → Int32} {H : Nat → Nat → Int32} {J : Nat → Int64} {L U Z W : Nat → Int32} {d : Nat → Nat} {K : Nat} {t : Nat → Nat}
theorem m_ck1 {k1 : Int64 → zH → Option (Int64 × zH)} (hD : GoodD d) : ∀ (r k f : Nat) (v : Int64), k + r = 9 → r < f → f_X9_checksum_l9 N m k1 f v (nI k) (mset h m S B (dI d) E H J L U Z W) = k1 (ckF (toldN d) r k v) (mset h m S B (dI d) E H J L U Z W) := by
  obtain ⟨g0, g1, g2, g3, g4, g5, g7⟩ := hD.1
  intro r
  induction r with
  | zero =>
    intro k f v hk hf
    obtain ⟨f, rfl⟩ : ∃ m, f = m + 1 := ⟨f - 1, by omega⟩
    simp (disch := omega) only [f_X9_checksum_l9, nlit, nltT, ↓reduceIte]
    rfl
  | succ r ih =>
    intro k f v hk hf
    obtain ⟨f, rfl⟩ : ∃ m, f = m + 1 := ⟨f - 1, by omega⟩
    have n1 := m_told (N := N) (h := h) (m := m) (S := S) (B := B) (E := E) (H := H) (J := J) (L := L) (U := U) (Z := Z) (W := W) (d := d) (w := k) (by omega) (by omega) (by omega) (by omega)
    have i1 := ih (k + 1) f (ck v (toldN d k)) (by omega) (by omega)
    refine Eq.trans ?_ i1
    simp (disch := omega) only [f_X9_checksum_l9, nlit, nltF, nadd, onO_ms, n1, ↓reduceIte, Option.bind_some]
    rfl
theorem m_ck2 {k1 : Int64 → zH → Option (Int64 × zH)} {p : Nat} (hp : p < 5) : ∀ (r k f : Nat) (v : Int64), k + r = 3 → r < f → f_X9_checksum_l49 N m (nI p) k1 f v (nI k) (mset h m S B (dI d) E H J L U Z W) = k1 (ckF (fun w => nI (d (11 + 19 * p + w))) r k v) (mset h m S B (dI d) E H J L U Z W) := by
  intro r
  induction r with
  | zero =>
    intro k f v hk hf
    obtain ⟨f, rfl⟩ : ∃ m, f = m + 1 := ⟨f - 1, by omega⟩
    simp (disch := omega) only [f_X9_checksum_l49, nlit, nleT, ↓reduceIte]
    rfl
  | succ r ih =>
    intro k f v hk hf
    obtain ⟨f, rfl⟩ : ∃ m, f = m + 1 := ⟨f - 1, by omega⟩
    refine Eq.trans ?_ (ih (k + 1) f (ck v (nI (d (11 + 19 * p + k)))) (by omega) (by omega))
    simp (disch := omega) only [f_X9_checksum_l49, m_at, nlit, nltT, nltF, nleT, nleF, neqT, neqF, nadd, nmul, nsub, ↓reduceIte, Option.bind_some, onO_ms, gI_ms, gA_ms, pF_ms, ldI_ms, stI_ms, dI_app, updI, upN_eq, upN_ne, Nat.add_zero, Nat.zero_add]
    rfl
theorem m_ck3 {k1 : Int64 → zH → Option (Int64 × zH)} {p c : Nat} (hNN : 1400 < N) (hD : GoodD d) (hC : CodeR d K t) (hp : p < d 1) (hc : c < d (11 + 19 * p + 1)) (v : Int64) : ∃ J' : Nat → Int64, f_X9_checksum_l97 N m (nI p) (nI c) k1 N v (nI 0) (mset h m S B (dI d) E H J L U Z W) = k1 (ckF (cardV d K t p c) 3 0 v) (mset h m S B (dI d) E H J' L U Z W) := by
  obtain ⟨⟨g0, g1, g2, g3, g4, g5, g7⟩, gb, gl, gp, gm⟩ := hD
  obtain ⟨p8, pw, pc⟩ := gp p hp
  have hp5 : p < 5 := by omega
  obtain ⟨J', hJ⟩ := m_priceOf (N := N) (h := h) (m := m) (B := B) (d := d) (E := E) (J := J) (L := L) (U := U) (Z := Z) (W := W) (p := p) (c := c) (by omega) g0 hp5 (by omega) (pc c hc).2 (pc c hc).1 hC
  refine ⟨J', ?_⟩
  obtain ⟨n, hn⟩ : ∃ n, N = n + 1 + 1 + 1 + 1 := ⟨N - 4, by omega⟩
  have n1 := m_elementOf (N := N) (h := h) (m := m) (S := S) (B := B) (E := E) (H := H) (J := J) (L := L) (U := U) (Z := Z) (W := W) (d := d) hp5 (show c < 8 by omega)
  have n2 := m_baseOf (N := N) (h := h) (m := m) (S := S) (B := B) (E := E) (H := H) (J := J) (L := L) (U := U) (Z := Z) (W := W) (d := d) hp5 (show c < 8 by omega)
  have key : ∀ n, f_X9_checksum_l97 N m (nI p) (nI c) k1 (n + 1 + 1 + 1 + 1) v (nI 0) (mset h m S B (dI d) E H J L U Z W) = k1 (ckF (cardV d K t p c) 3 0 v) (mset h m S B (dI d) E H J' L U Z W) := by
    intro n
    simp (disch := omega) only [f_X9_checksum_l97, f_X9_toldCard, n1, n2, hJ, onO_ms, nlit, nltT, nltF, nleT, nleF, neqT, neqF, nadd, ↓reduceIte, Option.bind_some]
    rfl
  have := key n
  rw [← hn] at this
  exact this
theorem m_ck4 {k1 : Int64 → zH → Option (Int64 × zH)} {p : Nat} (hNN : 1400 < N) (hD : GoodD d) (hC : CodeR d K t) (hp : p < d 1) : ∀ (r c f : Nat) (v : Int64) (J : Nat → Int64), c + r = d (11 + 19 * p + 1) → r < f → ∃ J' : Nat → Int64, f_X9_checksum_l84 N m (nI p) k1 f v (nI c) (mset h m S B (dI d) E H J L U Z W) = k1 (cardsF d K t p r c v) (mset h m S B (dI d) E H J' L U Z W) := by
  have g1 := hD.1.2.1
  have hp5 : p < 5 := by omega
  have p8 := (hD.2.2.2.1 p hp).1
  intro r
  induction r with
  | zero =>
    intro c f v J hk hf
    obtain ⟨f, rfl⟩ : ∃ m, f = m + 1 := ⟨f - 1, by omega⟩
    refine ⟨J, ?_⟩
    simp (disch := omega) only [f_X9_checksum_l84, m_cardsOf, nlit, nltT, nltF, nleT, nleF, neqT, neqF, nadd, nmul, nsub, ↓reduceIte, Option.bind_some, onO_ms, gI_ms, gA_ms, pF_ms, ldI_ms, stI_ms, dI_app, updI, upN_eq, upN_ne, Nat.add_zero, Nat.zero_add]
    rfl
  | succ r ih =>
    intro c f v J hk hf
    obtain ⟨f, rfl⟩ : ∃ m, f = m + 1 := ⟨f - 1, by omega⟩
    obtain ⟨J1, q1⟩ := m_ck3 (N := N) (h := h) (m := m) (S := S) (B := B) (E := E) (H := H) (J := J) (L := L) (U := U) (Z := Z) (W := W) (k1 := fun (u14 : Int64) (h15 : zH) => f_X9_checksum_l84 N m (nI p) k1 f u14 (nI c + (1 : Int32)) h15) hNN hD hC hp (show c < d (11 + 19 * p + 1) by omega) v
    obtain ⟨J2, q2⟩ := ih (c + 1) f (ckF (cardV d K t p c) 3 0 v) J1 (by omega) (by omega)
    refine ⟨J2, Eq.trans ?_ q2⟩
    simp (disch := omega) only [f_X9_checksum_l84, m_cardsOf, onO_ms, nleF, nlit, nadd, ↓reduceIte, Option.bind_some] at q1 ⊢
    exact q1
theorem m_ck5 {k1 : Int64 → zH → Option (Int64 × zH)} (hNN : 1400 < N) (hD : GoodD d) (hC : CodeR d K t) : ∀ (r p f : Nat) (v : Int64) (J : Nat → Int64), p + r = d 1 → r < f → ∃ J' : Nat → Int64, f_X9_checksum_l36 N m k1 f v (nI p) (mset h m S B (dI d) E H J L U Z W) = k1 (playsF d K t r p v) (mset h m S B (dI d) E H J' L U Z W) := by
  have g1 := hD.1.2.1
  intro r
  induction r with
  | zero =>
    intro p f v J hk hf
    obtain ⟨f, rfl⟩ : ∃ m, f = m + 1 := ⟨f - 1, by omega⟩
    refine ⟨J, ?_⟩
    simp (disch := omega) only [f_X9_checksum_l36, nlit, nltT, nltF, nleT, nleF, neqT, neqF, nadd, nmul, nsub, ↓reduceIte, Option.bind_some, onO_ms, gI_ms, gA_ms, pF_ms, ldI_ms, stI_ms, dI_app, updI, upN_eq, upN_ne, Nat.add_zero, Nat.zero_add]
    rfl
  | succ r ih =>
    intro p f v J hk hf
    obtain ⟨f, rfl⟩ : ∃ m, f = m + 1 := ⟨f - 1, by omega⟩
    have hp : p < d 1 := by omega
    have p8 := (hD.2.2.2.1 p hp).1
    obtain ⟨J1, q1⟩ := m_ck4 (N := N) (h := h) (m := m) (S := S) (B := B) (E := E) (H := H) (L := L) (U := U) (Z := Z) (W := W) (k1 := fun (u16 : Int64) (h17 : zH) => f_X9_checksum_l36 N m k1 f u16 (nI p + (1 : Int32)) h17) hNN hD hC hp (d (11 + 19 * p + 1)) 0 N (ckF (fun w => nI (d (11 + 19 * p + w))) 3 0 v) J (by omega) (by omega)
    obtain ⟨J2, q2⟩ := ih (p + 1) f (cardsF d K t p (d (11 + 19 * p + 1)) 0 (ckF (fun w => nI (d (11 + 19 * p + w))) 3 0 v)) J1 (by omega) (by omega)
    have q0 := m_ck2 (N := N) (h := h) (m := m) (S := S) (B := B) (E := E) (H := H) (J := J) (L := L) (U := U) (Z := Z) (W := W) (d := d) (k1 := fun (u10 : Int64) (h11 : zH) => f_X9_checksum_l84 N m (nI p) (fun (u16 : Int64) (h17 : zH) => f_X9_checksum_l36 N m k1 f u16 (nI p + (1 : Int32)) h17) N u10 (0 : Int32) h11) (show p < 5 by omega) 3 0 N v (by omega) (by omega)
    refine ⟨J2, Eq.trans ?_ q2⟩
    simp (disch := omega) only [f_X9_checksum_l36, gA_ms, ldI_ms, dI_app, nlit, nleF, nadd, ↓reduceIte, Option.bind_some] at q0 q1 ⊢
    exact q0.trans q1
theorem m_ck6 {k1 : Int64 → zH → Option (Int64 × zH)} (hD : GoodD d) : ∀ (r k f : Nat) (v : Int64), k + r = 3 * d 5 → r < f → f_X9_checksum_l140 N m k1 f v (nI k) (mset h m S B (dI d) E H J L U Z W) = k1 (ckF (fun k => nI (d (118 + k))) r k v) (mset h m S B (dI d) E H J L U Z W) := by
  obtain ⟨g0, g1, g2, g3, g4, g5, g7⟩ := hD.1
  intro r
  induction r with
  | zero =>
    intro k f v hk hf
    obtain ⟨f, rfl⟩ : ∃ m, f = m + 1 := ⟨f - 1, by omega⟩
    simp (disch := omega) only [f_X9_checksum_l140, nlit, nltT, nltF, nleT, nleF, neqT, neqF, nadd, nmul, nsub, ↓reduceIte, Option.bind_some, onO_ms, gI_ms, gA_ms, pF_ms, ldI_ms, stI_ms, dI_app, updI, upN_eq, upN_ne, Nat.add_zero, Nat.zero_add]
    rfl
  | succ r ih =>
    intro k f v hk hf
    obtain ⟨f, rfl⟩ : ∃ m, f = m + 1 := ⟨f - 1, by omega⟩
    refine Eq.trans ?_ (ih (k + 1) f (ck v (nI (d (118 + k)))) (by omega) (by omega))
    simp (disch := omega) only [f_X9_checksum_l140, nlit, nltT, nltF, nleT, nleF, neqT, neqF, nadd, nmul, nsub, ↓reduceIte, Option.bind_some, onO_ms, gI_ms, gA_ms, pF_ms, ldI_ms, stI_ms, dI_app, updI, upN_eq, upN_ne, Nat.add_zero, Nat.zero_add]
    rfl
theorem m_checksum (hNN : 1400 < N) (hD : GoodD d) (hC : CodeR d K t) : ∃ J' : Nat → Int64, f_X9_checksum N m (mset h m S B (dI d) E H J L U Z W) = some (ckS d K t, mset h m (upd S 0 (nI 0)) B (dI d) E H J' L U Z W) := by
  obtain ⟨⟨g0, g1, g2, g3, g4, g5, g7⟩, gb, gl, gp, gm⟩ := id hD
  unfold f_X9_checksum
  simp only [nlit, pF_ms, Option.bind_some]
  rw [show (0 : Int64) = (0 : Int64) from rfl]
  rw [m_ck1 hD 9 0 N _ (by omega) (by omega)]
  obtain ⟨J', q⟩ := m_ck5 (N := N) (h := h) (m := m) (S := upd S 0 (nI 0)) (B := B) (E := E) (H := H) (L := L) (U := U) (Z := Z) (W := W) (k1 := fun (u18 : Int64) (h19 : zH) => f_X9_checksum_l140 N m (fun (u24 : Int64) (h25 : zH) => (onO 9 m h25 (f_X9_productNow N m h25)).bind fun y26 => some ((((31 : Int64) * u24) + y26.1.toInt64), y26.2)) N u18 (nI 0) h19) hNN hD hC (d 1) 0 N (ckF (toldN d) 9 0 0) J (by omega) (by omega)
  refine ⟨J', Eq.trans q ?_⟩
  have hb2 : ∀ k, k < d 5 → isN (d 0) (d (118 + 3 * k + 1)) := fun k hk => (gb k hk).2.1
  have n1 := m_productNow (N := N) (h := h) (m := m) (S := upd S 0 (nI 0)) (B := B) (E := E) (H := H) (J := J') (L := L) (U := U) (Z := Z) (W := W) (by omega) g0 g5 hb2
  refine Eq.trans (m_ck6 hD (3 * d 5) 0 N _ (by omega) (by omega)) ?_
  simp only [onO_ms, n1, Option.bind_some]
  unfold ckS
  rw [bidsF_flat]
  rfl
end M99m

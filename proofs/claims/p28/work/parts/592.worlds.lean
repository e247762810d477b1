/-- what both sides remember: the data, the codes, the history, the error's place, the buffer -/
def St : Type := (Nat → Nat) × Nat × (Nat → Nat) × (Nat × (Nat → Nat → Nat) × (Nat → Nat) × (Nat → Nat → Nat)) × Int32 × Nat × (Nat → Int32)
def rdO (b0 z : Nat) (v : Nat → Int32) : zE := .inr (7, [.ref (b0 + 1), .ref (b0 + 5), .int (nI z), .int (v 3), .int (v 4), .int (v 5), .int (v 6), .int (v 7), .int (v 8), .ref (b0 + 8), .ref (b0 + 6), .int (v 11), .int (v 12), .int (v 13)])
def RdrAt (b0 : Nat) (h : zH) (z : Nat) (B : Nat → Int32) : Prop := ∃ (v : Nat → Int32) (cz : Int32) (C : Nat → Int32), hM h (b0 + 4) = some (rdO b0 z v) ∧ hM h (b0 + 5) = some (.inl (0, 700, .inl B)) ∧ hM h (b0 + 6) = some (.inr (6, [.ref (b0 + 7), .int cz])) ∧ hM h (b0 + 7) = some (.inl (0, 700, .inl C))
def HanAt (b0 : Nat) (h : zH) : Prop := ∃ (x y cz : Int32) (A F : Nat → Int32) (τ : Nat → Int64), hM h (b0 + 390) = some (.inr (3, [.ref (b0 + 1), .ref (b0 + 391), .ref (b0 + 392), .ref (b0 + 393), .int x, .int y])) ∧ hM h (b0 + 391) = some (.inl (0, 960, .inl A)) ∧ hM h (b0 + 392) = some (.inl (1, 514, .inr (.inl τ))) ∧ hM h (b0 + 393) = some (.inr (6, [.ref (b0 + 394), .int cz])) ∧ hM h (b0 + 394) = some (.inl (0, 120, .inl F))
def BaseAt (b0 : Nat) (h : zH) (ea : Int32) (z : Nat) (B : Nat → Int32) : Prop := (hM h b0 = some (.inr (8, [.ref (b0 + 1), .ref (b0 + 4), .ref (b0 + 46), .ref (b0 + 84), .ref (b0 + 390), .int ea])) ∧ GrpAt h (b0 + 1) ∧ b0 + 395 ≤ hS h) ∧ RdrAt b0 h z B ∧ HanAt b0 h ∧ AucRaw b0 h (b0 + 8) ∧ RuleAt h (b0 + 43) 1 (fun _ => 10000) ∧ z ≤ 700 ∧ ∀ k, k < z → ∃ v, v < 256 ∧ B k = nI v
def WC (b0 : Nat) (h : zH) : St → Prop
  | (d, K, t, (q, hd, hK, ht), ea, z, B) => BaseAt b0 h ea z B ∧ (AucAt b0 h (b0 + 46) d K t ∧ GoodD d ∧ CodeR d K t) ∧ HisAt b0 h q hd hK ht ∧ ∀ k, k < q → GoodD (hd k) ∧ CodeR (hd k) (hK k) (ht k)
/-- the model's tables of elements -/
def cntE (n v : Nat) : Nat → Nat
  | 0 => 0
  | M + 1 => cntE n v M + (if Nat.blt (numN n M) v = true then 1 else 0)
/-- an element's place among the numbers -/
def piN (n e : Nat) : Nat := cntE n (numN n e) (fctN n)
def LaidT (n : Nat) (L U : Nat → Int32) : Prop := ∀ e, e < fctN n → U (numN n e) = nI (piN n e) ∧ L (piN n e) = nI (numN n e)
def LaidOK (e20 e19 : Int32) (L U : Nat → Int32) : Prop := e20 = nI 0 ∨ ∃ n, inN n ∧ e20 = nI n ∧ e19 = nI (fctN n) ∧ LaidT n L U
def WMv (b0 : Nat) (h : zH) (th : Int32) : St → Prop
  | (d, K, t, (q, hd, hK, ht), ea, z, B) => ∃ (S B' E : Nat → Int32) (H : Nat → Nat → Int32) (J : Nat → Int64) (L U Z W : Nat → Int32), mset h (b0 + 395) S B' (dI d) E H J L U Z W = h ∧ S 0 = th ∧ S 2 = nI z ∧ (∀ k, k < z → B' k = B k) ∧ S 7 = ea ∧ S 11 = nI q ∧ q ≤ 8 ∧ (∀ k, k < q → ∀ i, i < 1378 → H k i = nI (hd k i)) ∧ LaidOK (S 20) (S 19) L U
theorem GrpAt_sim {h h' : zH} {g : Nat} (hG : GrpAt h g) (hf : ∀ k, k < 3 → simc h h' (g + k)) : GrpAt h' g := by
  obtain ⟨h1, ⟨f2, h2, h2'⟩, ⟨f3, h3, h3'⟩⟩ := hG
  exact ⟨simc_cell (hf 0 (by omega)) h1 (fun σ e => by cases e), ⟨f2, simc_cell (hf 1 (by omega)) h2 (fun σ e => by cases e), h2'⟩, ⟨f3, simc_cell (hf 2 (by omega)) h3 (fun σ e => by cases e), h3'⟩⟩
section M92
variable {h h' : zH} {b0 z q K : Nat} {B : Nat → Int32} {ea : Int32} {d : Nat → Nat} {t : Nat → Nat} {hd : Nat → Nat → Nat} {hK : Nat → Nat} {ht : Nat → Nat → Nat}
theorem RdrAt_sim (hR : RdrAt b0 h z B) (hf : ∀ x, b0 + 4 ≤ x → x < b0 + 8 → simc h h' x) : RdrAt b0 h' z B := by
  obtain ⟨v, cz, C, h1, h2, h3, h4⟩ := hR
  exact ⟨v, cz, C, simc_cell (hf _ (by omega) (by omega)) h1 (fun σ e => by cases e), simc_cell (hf _ (by omega) (by omega)) h2 (fun σ e => by cases e), simc_cell (hf _ (by omega) (by omega)) h3 (fun σ e => by cases e), simc_cell (hf _ (by omega) (by omega)) h4 (fun σ e => by cases e)⟩
theorem HanAt_sim (hR : HanAt b0 h) (hf : ∀ x, b0 + 390 ≤ x → x < b0 + 395 → simc h h' x) : HanAt b0 h' := by
  obtain ⟨x, y, cz, A, F, τ, h1, h2, h3, h4, h5⟩ := hR
  exact ⟨x, y, cz, A, F, τ, simc_cell (hf _ (by omega) (by omega)) h1 (fun σ e => by cases e), simc_cell (hf _ (by omega) (by omega)) h2 (fun σ e => by cases e), simc_cell (hf _ (by omega) (by omega)) h3 (fun σ e => by cases e), simc_cell (hf _ (by omega) (by omega)) h4 (fun σ e => by cases e), simc_cell (hf _ (by omega) (by omega)) h5 (fun σ e => by cases e)⟩
theorem BaseAt_sim (hB : BaseAt b0 h ea z B) (hS1 : hS h ≤ hS h') (hf : ∀ x, x < b0 + 46 ∨ (b0 + 390 ≤ x ∧ x < b0 + 395) → simc h h' x) : BaseAt b0 h' ea z B := by
  obtain ⟨⟨h1, h2, h3⟩, h4, h5, h6, h7, h8⟩ := hB
  exact ⟨⟨simc_cell (hf _ (by omega)) h1 (fun σ e => by cases e), GrpAt_sim h2 (fun k hk => hf _ (by omega)), by omega⟩, RdrAt_sim h4 (fun x _ _ => hf x (by omega)), HanAt_sim h5 (fun x _ _ => hf x (by omega)), AucRaw_sim h6 (fun x _ _ => hf x (by omega)), RuleAt_sim h7 (fun k hk => hf _ (by omega)), h8⟩
theorem HisAt_sim (hH : HisAt b0 h q hd hK ht) (hS1 : hS h ≤ hS h') (hf : ∀ x, b0 + 84 ≤ x → x < b0 + 390 → simc h h' x) (hr : ∀ rl k, RAd b0 h rl → k < 3 → simc h h' (rl + k)) : HisAt b0 h' q hd hK ht := by
  obtain ⟨o, h1, h2, h3, h4, h5, h6⟩ := hH
  refine ⟨o, h1, h2, simc_cell (hf _ (by omega) (by omega)) h3 (fun σ e => by cases e), simc_cell (hf _ (by omega) (by omega)) h4 (fun σ e => by cases e), fun i hi => AucRaw_sim (h5 i hi) (fun x _ _ => hf x (by omega) (by omega)), fun k hk => ?_⟩
  have : (o + k) % 8 < 8 := Nat.mod_lt _ (by omega)
  exact AucAt_sim (h6 k hk) hS1 (fun x _ _ => hf x (by omega) (by omega)) hr
/-- all cells stay (those of the model and the answer's apart) -/
theorem WC_sim {s : St} (hW : WC b0 h s) (hS1 : hS h ≤ hS h') (hf : ∀ x, x < b0 + 395 ∨ b0 + 395 ≤ x → x < hS h → simc h h' x) : WC b0 h' s := by
  obtain ⟨d, K, t, ⟨q, hd, hK, ht⟩, ea, z, B⟩ := s
  obtain ⟨h1, ⟨h2, h3, h4⟩, h5, h6⟩ := hW
  have hb := h1.1.2.2
  have hr : ∀ rl k, RAd b0 h rl → k < 3 → simc h h' (rl + k) := by
    intro rl k hr hk
    obtain ⟨r0, hr⟩ := hr
    exact hf _ (by rcases hr with ⟨i, h1, h2⟩ | ⟨i, h1, h2⟩ | h2 <;> omega) (by omega)
  exact ⟨BaseAt_sim h1 hS1 (fun x hx => hf x (by omega) (by omega)), ⟨AucAt_sim h2 hS1 (fun x _ _ => hf x (by omega) (by omega)) hr, h3, h4⟩, HisAt_sim h5 hS1 (fun x _ _ => hf x (by omega) (by omega)) hr, h6⟩
theorem WC_thr {s : St} {k : Nat} (hW : WC b0 h s) : WC b0 (zthr k h) s := WC_sim hW (Nat.le_succ _) (fun x _ _ => Or.inl rfl)
end M92

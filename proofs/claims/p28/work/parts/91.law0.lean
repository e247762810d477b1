/-! ===== the law's rounds: what is kept ===== -/
theorem bindP {α β : Type} {P : Option β → Prop} {x : Option α} {a : α} {f : α → Option β} (hx : x = some a) (h : P (f a)) : P (x.bind f) := by rw [hx]; exact h
theorem zjnP {α β : Type} {P : Option β → Prop} {J : α} {B : α → Option β} (h : P (B J)) : P (zjn J B) := h
theorem zjnQ {α β : Type} {P : Option β → Prop} {J : α} {B : α → Option β} (Q : α → Prop) (h1 : Q J) (h2 : ∀ j, Q j → P (B j)) : P (zjn J B) := h2 J h1
theorem ifPT {β : Type} {P : Option β → Prop} {c : Prop} [Decidable c] {A B : Option β} (hc : c) (h : P A) : P (if c then A else B) := by rw [if_pos hc]; exact h
theorem ifPF {β : Type} {P : Option β → Prop} {c : Prop} [Decidable c] {A B : Option β} (hc : ¬ c) (h : P B) : P (if c then A else B) := by rw [if_neg hc]; exact h
theorem zthP {α β : Type} {P : Option β → Prop} {x : α} {A : α → Option β} {B : Nat → Option β} (h : P (A x)) : P (zth (.inl x) A B) := h
theorem onP {β γ : Type} {P : Option γ → Prop} {c a : Nat} {h : zH} {F : Option β} {G : β → Option γ} (ho : onO c a h F = F) (hp : P (F.bind G)) : P ((onO c a h F).bind G) := by rw [ho]; exact hp
abbrev Yh : Type := Nat × (Nat → Nat → Nat) × (Nat → Nat) × (Nat → Nat → Nat)
/-- an auction that is kept: no one else writes its own cells -/
def SaleK (M : Nat → Prop) (b0 rn bf : Nat) (ow : Nat → Prop) (h : zH) (a : Nat) (d : Nat → Nat) (K : Nat) (t : Nat → Nat) : Prop := ∃ pu wo ha, SaleAt M h a pu wo ha d K t ∧ ∀ x, ownW a pu wo ha x → b0 + 395 ≤ x ∧ x ≠ rn ∧ x ≠ bf ∧ ¬ ow x
def Bef (M : Nat → Prop) (b0 rn bf : Nat) (ow : Nat → Prop) (h : zH) (D : Nat) (g : Nat → Option Nat) (q : Nat) (hd : Nat → Nat → Nat) (hK : Nat → Nat) (ht : Nat → Nat → Nat) : Prop := (∀ j, j < D → j < 8 → j < q ∧ ∃ aj, g j = some aj ∧ SaleK M b0 rn bf ow h aj (hd (q - 1 - j)) (hK (q - 1 - j)) (ht (q - 1 - j))) ∧ ∀ j, D ≤ j → j < 8 → g j = none
def Bg (M : Nat → Prop) (b0 rn bf : Nat) (κ : Nat → Nat) (ow : Nat → Prop) (h : zH) (D : Nat) (g : Nat → Option Nat) (q : Nat) (hd : Nat → Nat → Nat) (hK : Nat → Nat) (ht : Nat → Nat → Nat) : Prop := K20 M κ h ∧ MB M h ∧ (RnAt h rn ∧ M rn ∧ b0 + 395 ≤ rn ∧ rn < hS h ∧ ¬ ow rn) ∧ (hM h bf = some (rfA 9 7 g) ∧ M bf ∧ b0 + 395 ≤ bf ∧ bf < hS h ∧ bf ≠ rn ∧ ¬ ow bf) ∧ Bef M b0 rn bf ow h D g q hd hK ht
section M91
variable {M M' W ow : Nat → Prop} {h h' : zH} {N n c m a pu wo ha b0 rn bf K D q : Nat} {d t : Nat → Nat} {κ : Nat → Nat} {g : Nat → Option Nat} {hd : Nat → Nat → Nat} {hK : Nat → Nat} {ht : Nat → Nat → Nat}
theorem SaleK_fc (k : SaleK M b0 rn bf ow h a d K t) (f : FC W c m h h') (hw : ∀ y, W y → M y) (ho : ∀ y, W y → clW b0 y ∨ y = rn ∨ y = bf ∨ ow y) : SaleK M b0 rn bf ow h' a d K t := by
  obtain ⟨pu, wo, ha, k1, k2⟩ := k
  refine ⟨pu, wo, ha, SaleAt_fc k1 f hw (fun x hx hW => ?_), k2⟩
  obtain ⟨x1, x2, x3, x4⟩ := k2 x hx
  rcases ho x hW with h9 | h9 | h9 | h9
  · have := h9.2; omega
  · exact x2 h9
  · exact x3 h9
  · exact x4 h9
theorem SaleK_M (k : SaleK M b0 rn bf ow h a d K t) (hm : ∀ y, y < hS h → M' y → M y) (hm2 : ∀ y, M y → M' y) : SaleK M' b0 rn bf ow h a d K t := by
  obtain ⟨pu, wo, ha, k1, k2⟩ := k
  exact ⟨pu, wo, ha, SaleAt_M k1 hm hm2, k2⟩
theorem Bg_fc (B : Bg M b0 rn bf κ ow h D g q hd hK ht) (f : FC W c m h h') (hw : ∀ y, W y → M y) (ho : ∀ y, W y → clW b0 y ∨ ow y) : Bg M b0 rn bf κ ow h' D g q hd hK ht := by
  obtain ⟨b1, b2, ⟨b3, b4, b5, b6, b7⟩, ⟨c1, c2, c3, c4, c5, c6⟩, b8⟩ := B
  have s := f.1.1
  have n1 : ¬ W rn := fun h9 => by rcases ho _ h9 with h9 | h9; have := h9.2; omega; exact b7 h9
  have n2 : ¬ W bf := fun h9 => by rcases ho _ h9 with h9 | h9; have := h9.2; omega; exact c6 h9
  refine ⟨K20_fc b1 f hw, MB_fc b2 f, ⟨Rn_fc b3 f b6 n1, b4, b5, by omega, b7⟩, ⟨cell_fc c1 c4 f n2 (fun σ e => by cases e), c2, c3, by omega, c5, c6⟩, fun j j1 j2 => ?_, b8.2⟩
  obtain ⟨j3, aj, a1, a2⟩ := b8.1 j j1 j2
  exact ⟨j3, aj, a1, SaleK_fc a2 f hw (fun y hy => by rcases ho y hy with h9 | h9; exact Or.inl h9; exact Or.inr (Or.inr (Or.inr h9)))⟩
theorem Bg_rn (B : Bg M b0 rn bf κ ow h D g q hd hK ht) (f : FC (fun x => x = rn) c m h h') (hr : RnAt h' rn) : Bg M b0 rn bf κ ow h' D g q hd hK ht := by
  obtain ⟨b1, b2, ⟨b3, b4, b5, b6, b7⟩, ⟨c1, c2, c3, c4, c5, c6⟩, b8⟩ := B
  have s := f.1.1
  have hw : ∀ y, y = rn → M y := fun y hy => by rw [hy]; exact b4
  refine ⟨K20_fc b1 f hw, MB_fc b2 f, ⟨hr, b4, b5, by omega, b7⟩, ⟨cell_fc c1 c4 f c5 (fun σ e => by cases e), c2, c3, by omega, c5, c6⟩, fun j j1 j2 => ?_, b8.2⟩
  obtain ⟨j3, aj, a1, a2⟩ := b8.1 j j1 j2
  exact ⟨j3, aj, a1, SaleK_fc a2 f hw (fun y hy => Or.inr (Or.inl hy))⟩
theorem Bg_M (B : Bg M b0 rn bf κ ow h D g q hd hK ht) (hm : ∀ y, y < hS h → M' y → M y) (hm2 : ∀ y, M y → M' y) (b : MB M' h) : Bg M' b0 rn bf κ ow h D g q hd hK ht := by
  obtain ⟨b1, b2, ⟨b3, b4, b5, b6, b7⟩, ⟨c1, c2, c3, c4, c5, c6⟩, b8⟩ := B
  refine ⟨K20_M b1 hm, b, ⟨b3, hm2 _ b4, b5, b6, b7⟩, ⟨c1, hm2 _ c2, c3, c4, c5, c6⟩, fun j j1 j2 => ?_, b8.2⟩
  obtain ⟨j3, aj, a1, a2⟩ := b8.1 j j1 j2
  exact ⟨j3, aj, a1, SaleK_M a2 hm hm2⟩
variable {y : Yr}
theorem PW_M (P : PW M b0 a pu wo ha h d K t y) (hm : ∀ y, y < hS h → M' y → M y) (hm2 : ∀ y, M y → M' y) : PW M' b0 a pu wo ha h d K t y := ⟨P.1, SaleAt_M P.2.1 hm hm2, fun x hx => hm2 x (P.2.2.1 x hx), P.2.2.2⟩
theorem PW_rn (P : PW M b0 a pu wo ha h d K t y) (f : FC (fun x => x = rn) c m h h') (hr : RnAt h rn) (h1 : b0 + 395 ≤ rn) (h2 : M rn) (h3 : ¬ ownW a pu wo ha rn) : PW M b0 a pu wo ha h' d K t y := by
  obtain ⟨sd, r1⟩ := hr
  refine ⟨WC_fc P.1 f (fun x hx => Or.inr (by omega)) (fun x _ hx => ?_), SaleAt_fc P.2.1 f (fun x hx => by rw [hx]; exact h2) (fun x hx hw => h3 (by rw [← hw]; exact hx)), P.2.2⟩
  subst hx
  refine ⟨fun fs h9 => ?_, fun σ h9 => ?_, fun n g h8 => ?_⟩
  · rw [r1] at h9; cases h9
  · rw [r1] at h9; cases h9
  · rw [r1] at h8; cases h8
theorem PW_bf {g : Nat → Option Nat} (P : PW M b0 a pu wo ha h d K t y) (f : FC (fun x => x = bf) c m h h') (hr : hM h bf = some (rfA 9 7 g)) (h1 : b0 + 395 ≤ bf) (h2 : M bf) (h3 : ¬ ownW a pu wo ha bf) : PW M b0 a pu wo ha h' d K t y := by
  refine ⟨WC_fc P.1 f (fun x hx => Or.inr (by omega)) (fun x _ hx => ?_), SaleAt_fc P.2.1 f (fun x hx => by rw [hx]; exact h2) (fun x hx hw => h3 (by rw [← hw]; exact hx)), P.2.2⟩
  subst hx
  refine ⟨fun fs h9 => ?_, fun σ h9 => ?_, fun n g h8 => ?_⟩
  · rw [hr] at h9; cases h9
  · rw [hr] at h9; cases h9
  · rw [hr] at h8; cases h8
/-- the law's own change -/
theorem WC_own {s : St} (hW : WC b0 h s) (q : SaleAt M h a pu wo ha d K t) (f : FC (ownW a pu wo ha) c m h h') (ho : ∀ x, ownW a pu wo ha x → b0 + 395 ≤ x) : WC b0 h' s := by
  obtain ⟨lo, bi, tv, q1, q2, fp, fw, fl, gh, c1, c2, c3, c4⟩ := q
  exact WC_fc hW f (fun y hy => Or.inr (ho y hy)) (WOK_own q1 c1 c2 c3 q2.2.2.2)
/-- a call of the class through the law -/
theorem WR {α : Type} {F : zH → Option (α × zH)} {r : α} {s s' : St} (hW : WC b0 h s) (hC : CT b0 F h r s') : ∃ h', onO 8 b0 h (F h) = some (r, h') ∧ WC b0 h' s' ∧ FC (clW b0) 1 6 h h' := by
  obtain ⟨h', h1, h2, h3⟩ := hC
  obtain ⟨d', K', t', ⟨q, hd, hK, ht⟩, ea, z, B⟩ := s
  exact ⟨h', by rw [onO_of' hW.1.1.1, h1], h2, FC_LK h3⟩
end M91

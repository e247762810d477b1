/-! ===== z: fields, arrays, what is made ===== -/
def zClsO (c : Nat) (C O : String) (T : u_T) (N : Nat) (ty : Nat → FieldType) : Prop := vwCl[c]? = some (C, T, N) ∧ (∀ w ∈ u_ws C T N, w ∈ GW) ∧ (∀ k, k < N → parseFieldDescriptor (T k).2.2.1 = some (ty k)) ∧ (∀ a, a < N → ∀ b, b < N → a ≠ b → (T a).2.1 ≠ (T b).2.1) ∧ (∀ k, k < N → (T k).1 = O)
abbrev zCls (c : Nat) (C : String) (T : u_T) (N : Nat) (ty : Nat → FieldType) : Prop := zClsO c C C T N ty
def gF (h : zH) (a c k : Nat) : Option Value := match hM h a with
  | some (.inr (c', fs)) => if c' = c then fs[k]? else none
  | _ => none
def gI (h : zH) (a c k : Nat) : Option Int32 := match gF h a c k with
  | some (.int x) => some x
  | _ => none
def gA (h : zH) (a c k : Nat) : Option Nat := match gF h a c k with
  | some (.ref x) => some x
  | _ => none
def pF (h : zH) (a c k : Nat) (v : Value) : Option zH := match hM h a with
  | some (.inr (c', fs)) => if c' = c ∧ k < fs.length then some (hPut h a (.inr (c, fs.set k v))) else none
  | _ => none
/-- a truth -/
def zB (x : Int32) : Option Int32 := if x = 0 ∨ x = 1 then some x else none
def zix (i : Int32) (n : Nat) : Prop := ¬ i < 0 ∧ i.toNatClampNeg < n
theorem zix.vp {i : Int32} {n : Nat} (h : zix i n) : vp_in i n := fun q => q.elim h.1 (fun z => absurd h.2 (Nat.not_lt.mpr z))
def ldI (h : zH) (a : Nat) (i : Int32) : Option Int32 := match hM h a with
  | some (.inl (k, n, .inl f)) => if k = 0 ∧ ¬ i < 0 ∧ i.toNatClampNeg < n then some (f i.toNatClampNeg) else none
  | _ => none
def ldZ (h : zH) (a : Nat) (i : Int32) : Option Int32 := match hM h a with
  | some (.inl (k, n, .inl f)) => if k = 2 ∧ ¬ i < 0 ∧ i.toNatClampNeg < n then some (f i.toNatClampNeg) else none
  | _ => none
def ldJ (h : zH) (a : Nat) (i : Int32) : Option Int64 := match hM h a with
  | some (.inl (k, n, .inr (.inl f))) => if k = 1 ∧ ¬ i < 0 ∧ i.toNatClampNeg < n then some (f i.toNatClampNeg) else none
  | _ => none
def ldQ (h : zH) (a : Nat) (i : Int32) : Option Nat := match hM h a with
  | some (.inl (k, n, .inr (.inr (.inr (.inr f))))) => if (k = 3 ∨ k = 4 ∨ k = 5 ∨ k = 6 ∨ k = 7) ∧ ¬ i < 0 ∧ i.toNatClampNeg < n then f i.toNatClampNeg else none
  | _ => none
def stI (h : zH) (a : Nat) (i x : Int32) : Option zH := match hM h a with
  | some (.inl (k, n, .inl f)) => if k = 0 ∧ ¬ i < 0 ∧ i.toNatClampNeg < n then some (hPut h a (.inl (0, n, .inl (upd f i.toNatClampNeg x)))) else none
  | _ => none
def stZ (h : zH) (a : Nat) (i x : Int32) : Option zH := match hM h a with
  | some (.inl (k, n, .inl f)) => if k = 2 ∧ (¬ i < 0 ∧ i.toNatClampNeg < n) ∧ x.toInt8.toInt32 = x then some (hPut h a (.inl (2, n, .inl (upd f i.toNatClampNeg x)))) else none
  | _ => none
def stJ (h : zH) (a : Nat) (i : Int32) (x : Int64) : Option zH := match hM h a with
  | some (.inl (k, n, .inr (.inl f))) => if k = 1 ∧ ¬ i < 0 ∧ i.toNatClampNeg < n then some (hPut h a (.inl (1, n, .inr (.inl (vp_updL f i.toNatClampNeg x))))) else none
  | _ => none
/-- the class number of the objects that an array of this kind holds -/
def zqc : Nat → Nat := fun k => if k = 3 then 1 else if k = 5 then 9 else if k = 7 then 12 else 0
def stQ (h : zH) (a : Nat) (i : Int32) (v : Nat) : Option zH := match hM h a, hM h v with
  | some (.inl (k, n, .inr (.inr (.inr (.inr f))))), some (.inr (cv, _)) => if (k = 3 ∨ k = 4 ∨ k = 5 ∨ k = 7) ∧ cv = zqc k ∧ ¬ i < 0 ∧ i.toNatClampNeg < n then some (hPut h a (.inl (k, n, .inr (.inr (.inr (.inr (va_up f i.toNatClampNeg (some v)))))))) else none
  | _, _ => none
def aLen (h : zH) (a : Nat) : Option Int32 := match hM h a with
  | some (.inl (k, n, _)) => if k < 8 then some (Int32.ofNat n) else none
  | _ => none
def nwI (h : zH) (i : Int32) : Option (Nat × zH) := if ¬ i < 0 ∧ i.toNatClampNeg ≤ 100000 then some (hS h, hNew h (.inl (0, i.toNatClampNeg, .inl (fun _ => 0))) i.toNatClampNeg) else none
def nwZ (h : zH) (i : Int32) : Option (Nat × zH) := if ¬ i < 0 ∧ i.toNatClampNeg ≤ 100000 then some (hS h, hNew h (.inl (2, i.toNatClampNeg, .inl (fun _ => 0))) i.toNatClampNeg) else none
def nwJ (h : zH) (i : Int32) : Option (Nat × zH) := if ¬ i < 0 ∧ i.toNatClampNeg ≤ 100000 then some (hS h, hNew h (.inl (1, i.toNatClampNeg, .inr (.inl (fun _ => 0)))) i.toNatClampNeg) else none
def nwQ (k : Nat) (h : zH) (i : Int32) : Option (Nat × zH) := if (k = 3 ∨ k = 4 ∨ k = 5 ∨ k = 7) ∧ ¬ i < 0 ∧ i.toNatClampNeg ≤ 100000 then some (hS h, hNew h (.inl (k, i.toNatClampNeg, .inr (.inr (.inr (.inr (fun _ => none)))))) i.toNatClampNeg) else none
def nwO (c : Nat) (fs : List Value) (h : zH) : Nat × zH := (hS h, hNew h (.inr (c, fs)) fs.length)
theorem zP1 {D : va_G} {cl : List vw_C} {q : Nat × va_E} {H : Heap} (h : va_at D cl q H) : va_P D cl [q] H := by
  intro k x hx
  match k, hx with
  | 0, hx => cases hx; exact h
theorem gF_of {h : zH} {a c k : Nat} {v : Value} (hv : gF h a c k = some v) : ∃ fs : List Value, hM h a = some (.inr (c, fs)) ∧ fs[k]? = some v := by
  unfold gF at hv
  split at hv
  · next c' fs he =>
    split at hv
    · next hc => subst hc; exact ⟨fs, he, hv⟩
    · cases hv
  · cases hv
theorem gI_of {h : zH} {a c k : Nat} {x : Int32} (hv : gI h a c k = some x) : gF h a c k = some (.int x) := by
  unfold gI at hv
  split at hv
  · next y he => cases hv; exact he
  · cases hv
theorem gA_of {h : zH} {a c k : Nat} {x : Nat} (hv : gA h a c k = some x) : gF h a c k = some (.ref x) := by
  unfold gA at hv
  split at hv
  · next y he => cases hv; exact he
  · cases hv
theorem pF_of {h h1 : zH} {a c k : Nat} {v : Value} (hv : pF h a c k v = some h1) : ∃ fs : List Value, hM h a = some (.inr (c, fs)) ∧ k < fs.length ∧ h1 = hPut h a (.inr (c, fs.set k v)) := by
  unfold pF at hv
  split at hv
  · next c' fs he =>
    split at hv
    · next hc => obtain ⟨rfl, hk⟩ := hc; cases hv; exact ⟨fs, he, hk, rfl⟩
    · cases hv
  · cases hv
theorem zRp.put {Γ : zG} {h : zH} {H H1 : Heap} {a : Nat} {e e' : zE} (hR : zRp Γ h H) (he : hM h a = some e) (hr : zRl e) (hat : va_at Γ.1 vwCl (a, ztoE Γ.2.1 e') H1) (hr' : zRl e') (z : H1.size = H.size) (oq : ∀ q : Nat, q ≠ a → H1[q]? = H[q]?) : zRp Γ (hPut h a e') H1 := by
  refine ⟨z.trans hR.1, hR.2.1, fun b x hx => ?_⟩
  by_cases hb : b = a
  · subst hb
    have hx' : some e' = some x := by rw [← hx]; simp [hM, hPut]
    cases hx'
    exact ⟨fun _ => ⟨((hR.2.2 b e he).1 hr).1, hat⟩, fun hn => absurd hr' hn⟩
  · have hx' : hM h b = some x := by rw [← hx]; simp [hM, hPut, hb]
    obtain ⟨h1, h2⟩ := hR.2.2 b x hx'
    exact ⟨fun hr => ⟨(h1 hr).1, (h1 hr).2.kept (oq b hb)⟩, h2⟩
theorem zRp.new {Γ : zG} {h : zH} {H H1 : Heap} {e : zE} {n : Nat} (hR : zRp Γ h H) (hat : va_at Γ.1 vwCl (H.size, ztoE Γ.2.1 e) H1) (hr : zRl e) (z : H1.size = H.size + 1) (oq : ∀ q : Nat, q < H.size → H1[q]? = H[q]?) : zRp Γ (hNew h e n) H1 := by
  refine ⟨by rw [z, hR.1]; rfl, Nat.le_succ_of_le hR.2.1, fun b x hx => ?_⟩
  by_cases hb : b = h.1
  · subst hb
    have hx' : some e = some x := by rw [← hx]; simp [hM, hNew]
    cases hx'
    exact ⟨fun _ => ⟨hR.2.1, by have := hR.1; unfold hS at this; rw [← this]; exact hat⟩, fun hn => absurd hr hn⟩
  · have hx' : hM h b = some x := by rw [← hx]; simp [hM, hNew, hb]
    obtain ⟨h1, h2⟩ := hR.2.2 b x hx'
    exact ⟨fun hr => ⟨(h1 hr).1, (h1 hr).2.kept (oq b (h1 hr).2.lt)⟩, h2⟩
theorem zRp.junk {Γ : zG} {h : zH} {H H1 : Heap} {n : Nat} (hR : zRp Γ h H) (z : H1.size = H.size + 1) (oq : ∀ q : Nat, q < H.size → H1[q]? = H[q]?) : zRp Γ (hJunk h n) H1 := by
  refine ⟨by rw [z, hR.1]; rfl, Nat.le_succ_of_le hR.2.1, fun b x hx => ?_⟩
  obtain ⟨h1, h2⟩ := hR.2.2 b x hx
  exact ⟨fun hr => ⟨(h1 hr).1, (h1 hr).2.kept (oq b (h1 hr).2.lt)⟩, h2⟩
theorem zS.new {A : Nat → Prop} {H0 H H1 : Heap} {locs : List Loc} {n : Nat} (hS : va_S A H0 H locs) (z : H1.size = H.size + n) (oq : ∀ q : Nat, q < H.size → H1[q]? = H[q]?) : va_S A H0 H1 locs :=
  ⟨Nat.le_trans hS.1 (by omega), fun x h1 h2 => (oq x (Nat.lt_of_lt_of_le h1 hS.1)).trans (hS.2.1 x h1 h2), hS.2.2⟩
section ZHEAP
variable {Γ : zG} {X : zX} {d : Nat} {h0 : zH} {o : zR × zH} {pc : Nat} {lv : List (Nat × Value)} {st : List Value} {h : zH}
/-- a field's value -/
theorem z_getV {index : Nat} {a : Nat} (c k : Nat) {N : Nat} {C O : String} {T : u_T} {ty : Nat → FieldType} {v : Value} (hd : decode (zcc X) pc = .ok (.getfield index, 3)) (hcl : zClsO c C O T N ty) (hk : k < N) (hlk : Cond.fieldLink X.1.cls index O (T k).2.1 (T k).2.2.1 ∈ GW) (hv : gF h a c k = some v) (kk : Z Γ X d h0 o (pc + 3) lv (v :: st) h) : Z Γ X d h0 o pc lv (.ref a :: st) h := by
  refine ⟨kk.1, fun hle p l e R s m args below meth c0 H locs ls C0 hRp hSv hl => ?_⟩
  obtain ⟨fs, he, hfk⟩ := gF_of hv
  obtain ⟨hc, hws, hty, hnm, hdc⟩ := hcl
  refine va_get C0.1 C0.2.1 (Ts := GW) C0.2.2.2.2.2.2.1 hws C0.2.2.2.2.1 C0.2.2.2.2.2.2.2.2.1.1 (zP1 (hRp.o he hc).2) 0 (fs := fs) rfl hc k hk (C0.2.2.2.2.2.2.1 _ hlk) (fun x hx => ?_) hfk hd (kk.2 hle p l e R s m args below meth c0 H locs ls C0 hRp hSv hl)
  rw [← hdc k hk]
  exact hx
theorem z_getI {β : Type} {K : Int32 → Option β} {w : β} {index : Nat} {a c k : Nat} {N : Nat} {C O : String} {T : u_T} {ty : Nat → FieldType} (hd : decode (zcc X) pc = .ok (.getfield index, 3)) (hcl : zClsO c C O T N ty) (hk : k < N) (hlk : Cond.fieldLink X.1.cls index O (T k).2.1 (T k).2.2.1 ∈ GW) (hf : (gI h a c k).bind K = some w) (kk : ∀ x : Int32, K x = some w → Z Γ X d h0 o (pc + 3) lv (.int x :: st) h) : Z Γ X d h0 o pc lv (.ref a :: st) h := by
  obtain ⟨x, h1, h2⟩ := Option.bind_eq_some_iff.mp hf
  exact z_getV c k hd hcl hk hlk (gI_of h1) (kk x h2)
theorem z_getA {β : Type} {K : Nat → Option β} {w : β} {index : Nat} {a c k : Nat} {N : Nat} {C O : String} {T : u_T} {ty : Nat → FieldType} (hd : decode (zcc X) pc = .ok (.getfield index, 3)) (hcl : zClsO c C O T N ty) (hk : k < N) (hlk : Cond.fieldLink X.1.cls index O (T k).2.1 (T k).2.2.1 ∈ GW) (hf : (gA h a c k).bind K = some w) (kk : ∀ x : Nat, K x = some w → Z Γ X d h0 o (pc + 3) lv (.ref x :: st) h) : Z Γ X d h0 o pc lv (.ref a :: st) h := by
  obtain ⟨x, h1, h2⟩ := Option.bind_eq_some_iff.mp hf
  exact z_getV c k hd hcl hk hlk (gA_of h1) (kk x h2)
/-- a field is set -/
theorem z_putV {index : Nat} {a c k : Nat} {N : Nat} {C O : String} {T : u_T} {ty : Nat → FieldType} {v : Value} {h1 : zH} (hd : decode (zcc X) pc = .ok (.putfield index, 3)) (hcl : zClsO c C O T N ty) (hk : k < N) (hlk : Cond.fieldLink X.1.cls index O (T k).2.1 (T k).2.2.1 ∈ GW) (hfin : (T k).2.2.2 = false ∨ ((T k).2.2.2 = true ∧ X.1.name = "<init>" ∧ X.1.cls = C ∧ O = C)) (hn : narrow (ty k) v = v) (hfit : fits (ty k) v = true) (hv : pF h a c k v = some h1) (kk : Z Γ X d h0 o (pc + 3) lv st h1) : Z Γ X d h0 o pc lv (v :: .ref a :: st) h := by
  obtain ⟨fs, he, hfk, rfl⟩ := pF_of hv
  obtain ⟨hc, hws, hty, hnm, hdc⟩ := hcl
  refine ⟨kk.1, fun hle p l e R s m args below meth c0 H locs ls C0 hRp hSv hl => ?_⟩
  obtain ⟨hx, hb, hrt, hml, hown, hname, hts, hlocks, ⟨hK, hB0, -, -, -⟩, -⟩ := id C0
  have hap := va_apart (own := X.1.cls) hts hws ty hty hnm hK hc
  obtain ⟨hA, r, g1, cell, q1, q2, q3, q4⟩ := hRp.o he hc
  have hr : r = (C, T, N) := Option.some.inj (g1.symm.trans hc)
  subst hr
  obtain ⟨hSl, hfc, kC, hkC, hkind⟩ := hK.1 c _ hc
  obtain ⟨cf, kf, fi, f, hi, hsl⟩ := hSl k hk
  have hsame : s.fieldFound? O (T k).2.1 (T k).2.2.1 = some (cf, kf, fi, f) := by rw [← hdc k hk]; exact hi
  have hst := (u_facts hfc hkC (u_lays hts hws hk) hi).1
  have kkW : ∀ (H' : Heap) (sl : Nat), H'[a]? = some (cell.setSlot (Γ.1.2 c k) v) → H'.size = H.size → (∀ q : Nat, q ≠ a → H'[q]? = H[q]?) → W p l e R s m args below meth c0 H' (locs ++ [⟨a, sl⟩]) (hS h - hS h0) (hN h - hN h0) (vx_MQ below (zQ Γ o) (zXC Γ o) args s (hS o.2 - hS h0) (hN o.2 - hN h0) (zA Γ)) (F0 m (pc + 3) ls st) := by
    intro H' sl e1 e2 e3
    refine kk.2 hle p l e R s m args below meth c0 H' _ ls C0 (hRp.put he (zRl_o (vw_15 hc)) ⟨_, hc, t_OB.to (V := updV (vp_V fs) k v) ⟨_, e1, q2, q3, t_set q4 hap hk v⟩ (fun j _ => vp_updV_set hfk v j)⟩ (zRl_o (vw_15 hc)) e2 e3) (hSv.put e2 e3 hA) hl
  have hlay := hts _ (hws _ (u_in_lay hk))
  unfold u_lay at hlay
  rcases hfin with hf | ⟨hf, hin2, hcls, rfl⟩
  · rw [if_neg (by rw [hf]; decide)] at hlay
    have h6 := u_store hfc hkC hkind hlay hi (hty k hk) hn hfit
    refine W.putK hx hb (f := f) ⟨hown, hts _ hlk, ⟨_, _, _, hsame⟩, hst⟩ (by rw [q2]; exact h6) q1 q3 (by rw [hsl]; exact k2_hasslot (q4 k hk)) rfl rfl hd fun H' e1 e2 e3 => ?_
    rw [hsl] at e1
    exact kkW H' _ e1 e2 e3
  · rw [if_pos hf] at hlay
    have hcf : m.cls = cf := by
      obtain ⟨_, _, c', _, _, _, -, -, hf', -, -, -, hown2, -⟩ := Cond.laysFinal_spec hlay
      have e1 : c' = cf := by have := hi.symm.trans hf'; simp at this; exact this.1.symm
      rw [hdc k hk, ← hcls] at hown2
      rw [← e1]; exact Option.some.inj (hown.symm.trans hown2)
    have h6 := u_fits hfc hkC hkind (Or.inr hlay) hi (hty k hk) hn hfit
    refine W.putFinK hx hb hown (hts _ hlk) hsame hst hcf (hname hin2) (by rw [q2]; exact h6) q1 q3 (by rw [hsl]; exact k2_hasslot (q4 k hk)) rfl rfl hd fun H' e1 e2 e3 => ?_
    rw [hsl] at e1
    exact kkW H' _ e1 e2 e3
theorem ldI_of {h : zH} {a : Nat} {i : Int32} {x : Int32} (hv : ldI h a i = some x) : ∃ (n : Nat) (f : Nat → Int32), hM h a = some (.inl (0, n, .inl f)) ∧ zix i n ∧ x = f i.toNatClampNeg := by
  unfold ldI at hv
  split at hv
  · next k n f he =>
    split at hv
    · next hc => obtain ⟨rfl, hk⟩ := hc; cases hv; exact ⟨n, f, he, hk, rfl⟩
    · cases hv
  · cases hv
theorem z_iaload {β : Type} {K : Int32 → Option β} {w : β} {a : Nat} {i : Int32} (hd : decode (zcc X) pc = .ok (.iaload, 1)) (hf : (ldI h a i).bind K = some w) (kk : ∀ x : Int32, K x = some w → Z Γ X d h0 o (pc + 1) lv (.int x :: st) h) : Z Γ X d h0 o pc lv (.int i :: .ref a :: st) h := by
  obtain ⟨x, h1, h2⟩ := Option.bind_eq_some_iff.mp hf
  obtain ⟨n, f, he, hin, rfl⟩ := ldI_of h1
  refine ⟨(kk _ h2).1, fun hle p l e R s m args below meth c0 H locs ls C0 hRp hSv hl => ?_⟩
  exact va_iald C0.1 C0.2.1 C0.2.2.2.2.2.2.2.2.1.1 (zP1 (hRp.l he).2) 0 0 rfl (ztys_at Γ.2.1 (k := 0) (by decide)) hin.vp hd ((kk _ h2).2 hle p l e R s m args below meth c0 H locs ls C0 hRp hSv hl)
theorem ldZ_of {h : zH} {a : Nat} {i : Int32} {x : Int32} (hv : ldZ h a i = some x) : ∃ (n : Nat) (f : Nat → Int32), hM h a = some (.inl (2, n, .inl f)) ∧ zix i n ∧ x = f i.toNatClampNeg := by
  unfold ldZ at hv
  split at hv
  · next k n f he =>
    split at hv
    · next hc => obtain ⟨rfl, hk⟩ := hc; cases hv; exact ⟨n, f, he, hk, rfl⟩
    · cases hv
  · cases hv
theorem z_baload {β : Type} {K : Int32 → Option β} {w : β} {a : Nat} {i : Int32} (hd : decode (zcc X) pc = .ok (.baload, 1)) (hf : (ldZ h a i).bind K = some w) (kk : ∀ x : Int32, K x = some w → Z Γ X d h0 o (pc + 1) lv (.int x :: st) h) : Z Γ X d h0 o pc lv (.int i :: .ref a :: st) h := by
  obtain ⟨x, h1, h2⟩ := Option.bind_eq_some_iff.mp hf
  obtain ⟨n, f, he, hin, rfl⟩ := ldZ_of h1
  refine ⟨(kk _ h2).1, fun hle p l e R s m args below meth c0 H locs ls C0 hRp hSv hl => ?_⟩
  exact va_bald C0.1 C0.2.1 C0.2.2.2.2.2.2.2.2.1.1 (zP1 (hRp.l he).2) 0 2 rfl (ztys_at Γ.2.1 (k := 2) (by decide)) hin.vp hd ((kk _ h2).2 hle p l e R s m args below meth c0 H locs ls C0 hRp hSv hl)
theorem ldJ_of {h : zH} {a : Nat} {i : Int32} {x : Int64} (hv : ldJ h a i = some x) : ∃ (n : Nat) (f : Nat → Int64), hM h a = some (.inl (1, n, .inr (.inl f))) ∧ zix i n ∧ x = f i.toNatClampNeg := by
  unfold ldJ at hv
  split at hv
  · next k n f he =>
    split at hv
    · next hc => obtain ⟨rfl, hk⟩ := hc; cases hv; exact ⟨n, f, he, hk, rfl⟩
    · cases hv
  · cases hv
theorem z_laload {β : Type} {K : Int64 → Option β} {w : β} {a : Nat} {i : Int32} (hd : decode (zcc X) pc = .ok (.laload, 1)) (hf : (ldJ h a i).bind K = some w) (kk : ∀ x : Int64, K x = some w → Z Γ X d h0 o (pc + 1) lv (.long x :: st) h) : Z Γ X d h0 o pc lv (.int i :: .ref a :: st) h := by
  obtain ⟨x, h1, h2⟩ := Option.bind_eq_some_iff.mp hf
  obtain ⟨n, f, he, hin, rfl⟩ := ldJ_of h1
  refine ⟨(kk _ h2).1, fun hle p l e R s m args below meth c0 H locs ls C0 hRp hSv hl => ?_⟩
  exact va_lald C0.1 C0.2.1 C0.2.2.2.2.2.2.2.2.1.1 (zP1 (hRp.l he).2) 0 1 rfl (ztys_at Γ.2.1 (k := 1) (by decide)) hin.vp hd ((kk _ h2).2 hle p l e R s m args below meth c0 H locs ls C0 hRp hSv hl)
theorem ldQ_of {h : zH} {a : Nat} {i : Int32} {x : Nat} (hv : ldQ h a i = some x) : ∃ (k n : Nat) (f : Nat → Option Nat), hM h a = some (.inl (k, n, .inr (.inr (.inr (.inr f))))) ∧ (k = 3 ∨ k = 4 ∨ k = 5 ∨ k = 6 ∨ k = 7) ∧ zix i n ∧ f i.toNatClampNeg = some x := by
  unfold ldQ at hv
  split at hv
  · next k n f he =>
    split at hv
    · next hc => exact ⟨k, n, f, he, hc.1, hc.2, hv⟩
    · cases hv
  · cases hv
theorem z_aaload {β : Type} {K : Nat → Option β} {w : β} {a : Nat} {i : Int32} (hd : decode (zcc X) pc = .ok (.aaload, 1)) (hf : (ldQ h a i).bind K = some w) (kk : ∀ x : Nat, K x = some w → Z Γ X d h0 o (pc + 1) lv (.ref x :: st) h) : Z Γ X d h0 o pc lv (.int i :: .ref a :: st) h := by
  obtain ⟨x, h1, h2⟩ := Option.bind_eq_some_iff.mp hf
  obtain ⟨k, n, f, he, hk, hin, hx⟩ := ldQ_of h1
  refine ⟨(kk _ h2).1, fun hle p l e R s m args below meth c0 H locs ls C0 hRp hSv hl => ?_⟩
  have hk6 : k < 8 := by omega
  have hA := (C0.2.2.2.2.2.2.2.2.1.1.2 k _ (ztys_at Γ.2.1 hk6)).1 n (fun j => va_rf (f j))
  have hty : (zaty k).isReference = true := by rcases hk with rfl | rfl | rfl | rfl | rfl <;> rfl
  have hP : H[a]? = some (arrV (Γ.2.1 k) n (fun j => va_rf (f j))) := (hRp.l he).2
  refine W.aald (v := .ref x) C0.1 C0.2.1 hP hA hty (fun q => by cases q) ?_ ?_ rfl rfl hd ((kk _ h2).2 hle p l e R s m args below meth c0 H locs ls C0 hRp hSv hl)
  · rw [arrV_size]; exact hin.vp
  · rw [arrV_read _ _ hin.2, hx]; rfl
theorem z_alen {β : Type} {K : Int32 → Option β} {w : β} {a : Nat} (hd : decode (zcc X) pc = .ok (.arraylength, 1)) (hf : (aLen h a).bind K = some w) (kk : ∀ x : Int32, K x = some w → Z Γ X d h0 o (pc + 1) lv (.int x :: st) h) : Z Γ X d h0 o pc lv (.ref a :: st) h := by
  obtain ⟨x, h1, h2⟩ := Option.bind_eq_some_iff.mp hf
  unfold aLen at h1
  split at h1
  · next k n y he =>
    split at h1
    · next hk =>
      cases h1
      refine ⟨(kk _ h2).1, fun hle p l e R s m args below meth c0 H locs ls C0 hRp hSv hl => ?_⟩
      exact va_alen C0.1 C0.2.1 C0.2.2.2.2.2.2.2.2.1.1 (zP1 (hRp.l he).2) 0 k rfl (ztys_at Γ.2.1 hk) rfl hd ((kk _ h2).2 hle p l e R s m args below meth c0 H locs ls C0 hRp hSv hl)
    · cases h1
  · cases h1
theorem stI_of {h h1 : zH} {a : Nat} {i x : Int32} (hv : stI h a i x = some h1) : ∃ (n : Nat) (f : Nat → Int32), hM h a = some (.inl (0, n, .inl f)) ∧ zix i n ∧ h1 = hPut h a (.inl (0, n, .inl (upd f i.toNatClampNeg x))) := by
  unfold stI at hv
  split at hv
  · next k n f he =>
    split at hv
    · next hc => obtain ⟨rfl, hk⟩ := hc; cases hv; exact ⟨n, f, he, hk, rfl⟩
    · cases hv
  · cases hv
theorem z_iastore {β : Type} {K : zH → Option β} {w : β} {a : Nat} {i x : Int32} (hd : decode (zcc X) pc = .ok (.iastore, 1)) (hf : (stI h a i x).bind K = some w) (kk : ∀ h1 : zH, K h1 = some w → Z Γ X d h0 o (pc + 1) lv st h1) : Z Γ X d h0 o pc lv (.int x :: .int i :: .ref a :: st) h := by
  obtain ⟨h1, h2, h3⟩ := Option.bind_eq_some_iff.mp hf
  obtain ⟨n, f, he, hin, rfl⟩ := stI_of h2
  have kk := kk _ h3
  refine ⟨kk.1, fun hle p l e R s m args below meth c0 H locs ls C0 hRp hSv hl => ?_⟩
  have hA := (C0.2.2.2.2.2.2.2.2.1.1.2 0 _ (ztys_at Γ.2.1 (k := 0) (by decide))).1 n (fun j => .int (f j))
  have hat := (hRp.l he).2
  have hP : H[a]? = some (arrV (Γ.2.1 0) n (fun j => .int (f j))) := hat
  refine W.iast C0.1 C0.2.1 hP hA (fun q => by cases q) (by rw [arrV_size]; exact hin.vp) rfl rfl hd fun H1 e1 z1 o1 => ?_
  refine kk.2 hle p l e R s m args below meth c0 H1 _ ls C0 (hRp.put he zRl_l ?_ zRl_l z1 o1) (hSv.put z1 o1 (hRp.l he).1) hl
  show H1[a]? = some (vp_cell _ _)
  rw [e1, vp_cell_i, arrV_store]
  congr 2
  funext q
  by_cases hq : q = i.toNatClampNeg
  · subst hq
    simp [updV, upd]
  · simp [updV, upd, hq]
theorem stZ_of {h h1 : zH} {a : Nat} {i x : Int32} (hv : stZ h a i x = some h1) : ∃ (n : Nat) (f : Nat → Int32), hM h a = some (.inl (2, n, .inl f)) ∧ zix i n ∧ h1 = hPut h a (.inl (2, n, .inl (upd f i.toNatClampNeg x))) ∧ x.toInt8.toInt32 = x := by
  unfold stZ at hv
  split at hv
  · next k n f he =>
    split at hv
    · next hc => obtain ⟨rfl, hk, hb⟩ := hc; cases hv; exact ⟨n, f, he, hk, rfl, hb⟩
    · cases hv
  · cases hv
theorem z_bastore {β : Type} {K : zH → Option β} {w : β} {a : Nat} {i x : Int32} (hd : decode (zcc X) pc = .ok (.bastore, 1)) (hf : (stZ h a i x).bind K = some w) (kk : ∀ h1 : zH, K h1 = some w → Z Γ X d h0 o (pc + 1) lv st h1) : Z Γ X d h0 o pc lv (.int x :: .int i :: .ref a :: st) h := by
  obtain ⟨h1, h2, h3⟩ := Option.bind_eq_some_iff.mp hf
  obtain ⟨n, f, he, hin, rfl, hbx⟩ := stZ_of h2
  have kk := kk _ h3
  refine ⟨kk.1, fun hle p l e R s m args below meth c0 H locs ls C0 hRp hSv hl => ?_⟩
  have hA := (C0.2.2.2.2.2.2.2.2.1.1.2 2 _ (ztys_at Γ.2.1 (k := 2) (by decide))).1 n (fun j => .int (f j))
  have hat := (hRp.l he).2
  have hP : H[a]? = some (arrV (Γ.2.1 2) n (fun j => .int (f j))) := hat
  refine W.bast C0.1 C0.2.1 hP hA (fun q => by cases q) (by rw [arrV_size]; exact hin.vp) rfl rfl hd fun H1 e1 z1 o1 => ?_
  refine kk.2 hle p l e R s m args below meth c0 H1 _ ls C0 (hRp.put he zRl_l ?_ zRl_l z1 o1) (hSv.put z1 o1 (hRp.l he).1) hl
  show H1[a]? = some (vp_cell _ _)
  rw [e1, vp_cell_i, arrV_store]
  congr 2
  funext q
  by_cases hq : q = i.toNatClampNeg
  · subst hq
    have e9 : narrow .byte (.int x) = .int x := by rw [← hbx]; exact pk_nb x
    simp [updV, upd, e9]
  · simp [updV, upd, hq]
theorem stJ_of {h h1 : zH} {a : Nat} {i : Int32} {x : Int64} (hv : stJ h a i x = some h1) : ∃ (n : Nat) (f : Nat → Int64), hM h a = some (.inl (1, n, .inr (.inl f))) ∧ zix i n ∧ h1 = hPut h a (.inl (1, n, .inr (.inl (vp_updL f i.toNatClampNeg x)))) := by
  unfold stJ at hv
  split at hv
  · next k n f he =>
    split at hv
    · next hc => obtain ⟨rfl, hk⟩ := hc; cases hv; exact ⟨n, f, he, hk, rfl⟩
    · cases hv
  · cases hv
theorem z_lastore {β : Type} {K : zH → Option β} {w : β} {a : Nat} {i : Int32} {x : Int64} (hd : decode (zcc X) pc = .ok (.lastore, 1)) (hf : (stJ h a i x).bind K = some w) (kk : ∀ h1 : zH, K h1 = some w → Z Γ X d h0 o (pc + 1) lv st h1) : Z Γ X d h0 o pc lv (.long x :: .int i :: .ref a :: st) h := by
  obtain ⟨h1, h2, h3⟩ := Option.bind_eq_some_iff.mp hf
  obtain ⟨n, f, he, hin, rfl⟩ := stJ_of h2
  have kk := kk _ h3
  refine ⟨kk.1, fun hle p l e R s m args below meth c0 H locs ls C0 hRp hSv hl => ?_⟩
  have hA := (C0.2.2.2.2.2.2.2.2.1.1.2 1 _ (ztys_at Γ.2.1 (k := 1) (by decide))).1 n (fun j => .long (f j))
  have hat := (hRp.l he).2
  have hP : H[a]? = some (arrV (Γ.2.1 1) n (fun j => .long (f j))) := hat
  refine W.last C0.1 C0.2.1 hP hA (fun q => by cases q) (by rw [arrV_size]; exact hin.vp) rfl rfl hd fun H1 e1 z1 o1 => ?_
  refine kk.2 hle p l e R s m args below meth c0 H1 _ ls C0 (hRp.put he zRl_l ?_ zRl_l z1 o1) (hSv.put z1 o1 (hRp.l he).1) hl
  show H1[a]? = some (vp_cell _ _)
  rw [e1, vp_cell_l, arrV_store]
  congr 2
  funext q
  by_cases hq : q = i.toNatClampNeg
  · subst hq
    simp [updV, vp_updL]
  · simp [updV, vp_updL, hq]
theorem z_aastore {β : Type} {K : zH → Option β} {w : β} {a v : Nat} {i : Int32} (hd : decode (zcc X) pc = .ok (.aastore, 1)) (hf : (stQ h a i v).bind K = some w) (kk : ∀ h1 : zH, K h1 = some w → Z Γ X d h0 o (pc + 1) lv st h1) : Z Γ X d h0 o pc lv (.ref v :: .int i :: .ref a :: st) h := by
  obtain ⟨h1, h2, h3⟩ := Option.bind_eq_some_iff.mp hf
  have kk := kk _ h3
  unfold stQ at h2
  split at h2
  · next k n f cv vs he hev =>
    split at h2
    · next hc =>
      obtain ⟨hk, rfl, hin⟩ := hc
      cases h2
      refine ⟨kk.1, fun hle p l e R s m args below meth c0 H locs ls C0 hRp hSv hl => ?_⟩
      have hK := C0.2.2.2.2.2.2.2.2.1.1
      have hk6 : k < 8 := by omega
      obtain ⟨hA, hRA⟩ := hK.2 k _ (ztys_at Γ.2.1 hk6)
      have hP : H[a]? = some (arrV (Γ.2.1 k) n (fun j => va_rf (f j))) := (hRp.l he).2
      obtain ⟨hAv, r, g0, cellV, g1, g2, g3, -⟩ := (hRp.2.2 v _ hev).1 (zRl_o (by rcases hk with rfl | rfl | rfl | rfl <;> decide))
      have hcls := (hK.1 (zqc k) r g0).2
      obtain ⟨kC, hkC, -⟩ := hcls.2
      have hZ : ∃ (kA : Class) (C : String), s.vm.classes[Γ.2.1 k]? = some kA ∧ kA.kind = .array (Γ.1.1 (zqc k)) (.object C) := by
        rcases hk with rfl | rfl | rfl | rfl
        · obtain ⟨kA, comp, k1, k2, k3, -⟩ := hRA
          have hcomp : comp = Γ.1.1 (zqc 3) := by
            have hr : r = (RX1, TX1, 4) := Option.some.inj (g0.symm.trans rfl)
            subst hr
            exact Option.some.inj (k3.symm.trans hcls.1)
          subst hcomp
          exact ⟨kA, _, k1, k2⟩
        · obtain ⟨kA, comp, k1, k2, k3, -⟩ := hRA
          have hcomp : comp = Γ.1.1 (zqc 4) := by
            have hr : r = (RX0, TX0, 15) := Option.some.inj (g0.symm.trans rfl)
            subst hr
            exact Option.some.inj (k3.symm.trans hcls.1)
          subst hcomp
          exact ⟨kA, _, k1, k2⟩
        · obtain ⟨kA, comp, k1, k2, k3, -⟩ := hRA
          have hcomp : comp = Γ.1.1 (zqc 5) := by
            have hr : r = (RX9, TX9, 3) := Option.some.inj (g0.symm.trans rfl)
            subst hr
            exact Option.some.inj (k3.symm.trans hcls.1)
          subst hcomp
          exact ⟨kA, _, k1, k2⟩
        · obtain ⟨kA, comp, k1, k2, k3, -⟩ := hRA
          have hcomp : comp = Γ.1.1 (zqc 7) := by
            have hr : r = (RX12, TX12, 12) := Option.some.inj (g0.symm.trans rfl)
            subst hr
            exact Option.some.inj (k3.symm.trans hcls.1)
          subst hcomp
          exact ⟨kA, _, k1, k2⟩
      obtain ⟨kA, C, k1, k2⟩ := hZ
      refine W.aast C0.1 C0.2.1 hP (fun q h => by cases h) (fun h => by cases h) k1 k2 rfl hkC ⟨hin.1, by show _ < (arrV _ _ _).slots.size; rw [arrV_size]; exact hin.2⟩ g1 (fun q h => by rw [g3] at h; cases h) (by rw [g2]; exact hkC) (by rw [g2]; exact va_assign hcls) rfl rfl hd fun H1 e1 z1 o1 => ?_
      refine kk.2 hle p l e R s m args below meth c0 H1 _ ls C0 (hRp.put he zRl_l ?_ zRl_l z1 o1) (hSv.put z1 o1 (hRp.l he).1) hl
      show H1[a]? = some (vp_cell _ _)
      rw [e1, vp_cell_q, arrV_store]
      congr 2
      funext q
      by_cases hq : q = i.toNatClampNeg
      · subst hq
        simp [updV, va_up, va_rf]
      · simp [updV, va_up, hq]
    · cases h2
  · cases h2
theorem z_newI {β : Type} {K : Nat × zH → Option β} {w : β} {i : Int32} (hd : decode (zcc X) pc = .ok (.newarray .int, 2)) (hw : Cond.arrayClass .int ∈ GW) (hf : (nwI h i).bind K = some w) (kk : ∀ (q : Nat) (h1 : zH), K (q, h1) = some w → Z Γ X d h0 o (pc + 2) lv (.ref q :: st) h1) : Z Γ X d h0 o pc lv (.int i :: st) h := by
  obtain ⟨⟨q, h1⟩, h2, h3⟩ := Option.bind_eq_some_iff.mp hf
  have kk := kk _ _ h3
  unfold nwI at h2
  split at h2
  · next hc =>
    obtain ⟨hn, hm⟩ := hc
    cases h2
    refine ⟨zle.tr ⟨Nat.le_succ _, Nat.le_add_right _ _⟩ kk.1, fun hle p l e R s m args below meth c0 H locs ls C0 hRp hSv hl => ?_⟩
    have hsz := hRp.1
    have h9 : zle (hNew h (.inl (0, i.toNatClampNeg, .inl (fun _ => 0))) i.toNatClampNeg) o.2 := kk.1
    obtain ⟨h9a, h9b⟩ := h9
    have e0 : hS (hNew h (.inl (0, i.toNatClampNeg, .inl (fun _ => 0))) i.toNatClampNeg) = hS h + 1 := rfl
    have e2 : hN (hNew h (.inl (0, i.toNatClampNeg, .inl (fun _ => 0))) i.toNatClampNeg) = hN h + i.toNatClampNeg := rfl
    rw [e0] at h9a
    rw [e2] at h9b
    have hR1 := C0.2.2.2.2.2.2.2.2.2.2.2.2.1
    have hR2 := C0.2.2.2.2.2.2.2.2.2.2.2.2.2.1
    obtain ⟨hla, hlb⟩ := hle
    refine va_newaK (atype := .int) C0.1 C0.2.1 (C0.2.2.2.2.2.2.1 _ hw) rfl hd rfl hn rfl (by simp only [newarray.typeOf, componentBytes]; omega) (by omega) (by omega) rfl fun H1 cA e1 z1 o1 hAr hNm => ?_
    have hcA : cA = Γ.2.1 0 := by
      have hRA := (C0.2.2.2.2.2.2.2.2.1.1.2 0 _ (ztys_at Γ.2.1 (k := 0) (by decide))).2
      exact Option.some.inj (hNm.symm.trans hRA)
    subst hcA
    have key := kk.2 ⟨by omega, by omega⟩ p l e R s m args below meth c0 H1 locs ls C0 (hRp.new (by
      show H1[H.size]? = some (vp_cell _ _)
      rw [vp_cell_i]
      exact e1) zRl_l z1 o1) (zS.new hSv z1 o1) hl
    rw [hsz]
    rw [e0, e2, show hS h + 1 - hS h0 = hS h - hS h0 + 1 by omega, show hN h + i.toNatClampNeg - hN h0 = hN h - hN h0 + i.toNatClampNeg by omega] at key
    exact key
  · cases h2
theorem z_newZ {β : Type} {K : Nat × zH → Option β} {w : β} {i : Int32} (hd : decode (zcc X) pc = .ok (.newarray .byte, 2)) (hw : Cond.arrayClass .byte ∈ GW) (hf : (nwZ h i).bind K = some w) (kk : ∀ (q : Nat) (h1 : zH), K (q, h1) = some w → Z Γ X d h0 o (pc + 2) lv (.ref q :: st) h1) : Z Γ X d h0 o pc lv (.int i :: st) h := by
  obtain ⟨⟨q, h1⟩, h2, h3⟩ := Option.bind_eq_some_iff.mp hf
  have kk := kk _ _ h3
  unfold nwZ at h2
  split at h2
  · next hc =>
    obtain ⟨hn, hm⟩ := hc
    cases h2
    refine ⟨zle.tr ⟨Nat.le_succ _, Nat.le_add_right _ _⟩ kk.1, fun hle p l e R s m args below meth c0 H locs ls C0 hRp hSv hl => ?_⟩
    have hsz := hRp.1
    have h9 : zle (hNew h (.inl (2, i.toNatClampNeg, .inl (fun _ => 0))) i.toNatClampNeg) o.2 := kk.1
    obtain ⟨h9a, h9b⟩ := h9
    have e0 : hS (hNew h (.inl (2, i.toNatClampNeg, .inl (fun _ => 0))) i.toNatClampNeg) = hS h + 1 := rfl
    have e2 : hN (hNew h (.inl (2, i.toNatClampNeg, .inl (fun _ => 0))) i.toNatClampNeg) = hN h + i.toNatClampNeg := rfl
    rw [e0] at h9a
    rw [e2] at h9b
    have hR1 := C0.2.2.2.2.2.2.2.2.2.2.2.2.1
    have hR2 := C0.2.2.2.2.2.2.2.2.2.2.2.2.2.1
    obtain ⟨hla, hlb⟩ := hle
    refine va_newaK (atype := .byte) C0.1 C0.2.1 (C0.2.2.2.2.2.2.1 _ hw) rfl hd rfl hn rfl (by simp only [newarray.typeOf, componentBytes]; omega) (by omega) (by omega) rfl fun H1 cA e1 z1 o1 hAr hNm => ?_
    have hcA : cA = Γ.2.1 2 := by
      have hRA := (C0.2.2.2.2.2.2.2.2.1.1.2 2 _ (ztys_at Γ.2.1 (k := 2) (by decide))).2
      exact Option.some.inj (hNm.symm.trans hRA)
    subst hcA
    have key := kk.2 ⟨by omega, by omega⟩ p l e R s m args below meth c0 H1 locs ls C0 (hRp.new (by
      show H1[H.size]? = some (vp_cell _ _)
      rw [vp_cell_i]
      exact e1) zRl_l z1 o1) (zS.new hSv z1 o1) hl
    rw [hsz]
    rw [e0, e2, show hS h + 1 - hS h0 = hS h - hS h0 + 1 by omega, show hN h + i.toNatClampNeg - hN h0 = hN h - hN h0 + i.toNatClampNeg by omega] at key
    exact key
  · cases h2
theorem z_newJ {β : Type} {K : Nat × zH → Option β} {w : β} {i : Int32} (hd : decode (zcc X) pc = .ok (.newarray .long, 2)) (hw : Cond.arrayClass .long ∈ GW) (hf : (nwJ h i).bind K = some w) (kk : ∀ (q : Nat) (h1 : zH), K (q, h1) = some w → Z Γ X d h0 o (pc + 2) lv (.ref q :: st) h1) : Z Γ X d h0 o pc lv (.int i :: st) h := by
  obtain ⟨⟨q, h1⟩, h2, h3⟩ := Option.bind_eq_some_iff.mp hf
  have kk := kk _ _ h3
  unfold nwJ at h2
  split at h2
  · next hc =>
    obtain ⟨hn, hm⟩ := hc
    cases h2
    refine ⟨zle.tr ⟨Nat.le_succ _, Nat.le_add_right _ _⟩ kk.1, fun hle p l e R s m args below meth c0 H locs ls C0 hRp hSv hl => ?_⟩
    have hsz := hRp.1
    have h9 : zle (hNew h (.inl (1, i.toNatClampNeg, .inr (.inl (fun _ => 0)))) i.toNatClampNeg) o.2 := kk.1
    obtain ⟨h9a, h9b⟩ := h9
    have e0 : hS (hNew h (.inl (1, i.toNatClampNeg, .inr (.inl (fun _ => 0)))) i.toNatClampNeg) = hS h + 1 := rfl
    have e2 : hN (hNew h (.inl (1, i.toNatClampNeg, .inr (.inl (fun _ => 0)))) i.toNatClampNeg) = hN h + i.toNatClampNeg := rfl
    rw [e0] at h9a
    rw [e2] at h9b
    have hR1 := C0.2.2.2.2.2.2.2.2.2.2.2.2.1
    have hR2 := C0.2.2.2.2.2.2.2.2.2.2.2.2.2.1
    obtain ⟨hla, hlb⟩ := hle
    refine va_newaK (atype := .long) C0.1 C0.2.1 (C0.2.2.2.2.2.2.1 _ hw) rfl hd rfl hn rfl (by simp only [newarray.typeOf, componentBytes]; omega) (by omega) (by omega) rfl fun H1 cA e1 z1 o1 hAr hNm => ?_
    have hcA : cA = Γ.2.1 1 := by
      have hRA := (C0.2.2.2.2.2.2.2.2.1.1.2 1 _ (ztys_at Γ.2.1 (k := 1) (by decide))).2
      exact Option.some.inj (hNm.symm.trans hRA)
    subst hcA
    have key := kk.2 ⟨by omega, by omega⟩ p l e R s m args below meth c0 H1 locs ls C0 (hRp.new (by
      show H1[H.size]? = some (vp_cell _ _)
      rw [vp_cell_l]
      exact e1) zRl_l z1 o1) (zS.new hSv z1 o1) hl
    rw [hsz]
    rw [e0, e2, show hS h + 1 - hS h0 = hS h - hS h0 + 1 by omega, show hN h + i.toNatClampNeg - hN h0 = hN h - hN h0 + i.toNatClampNeg by omega] at key
    exact key
  · cases h2
end ZHEAP

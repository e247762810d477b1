/-! ===== z: p28's further rows: bytes, copies, arrays of rows, null, inherited and nest calls ===== -/
abbrev fitB (x : Int32) : Prop := x.toInt8.toInt32 = x
def va_RA_ad (k : Nat) (ad : String) : Prop := ∀ {s : State} {cA : ClassId}, va_RA s cA (zaty k) → s.vm.findClass ad = some cA
section ZROWS2
variable {Γ : zG} {X : zX} {d : Nat} {h0 : zH} {o : zR × zH} {pc : Nat} {lv : List (Nat × Value)} {st : List Value} {h : zH}
theorem fitB_of {x : Int32} (hx : fitB x) : fits .byte (.int x) = true := by
  rw [← hx]
  exact pk_fb x
def cpB (h : zH) (a0 : Nat) (sp : Int32) (a : Nat) (dp n : Int32) : Option zH := match hM h a0, hM h a with
  | some (.inl (k0, n0, .inl f)), some (.inl (k1, n1, .inl g)) => if k0 = 2 ∧ k1 = 2 ∧ ¬ sp < 0 ∧ ¬ dp < 0 ∧ ¬ n < 0 ∧ sp.toNatClampNeg + n.toNatClampNeg ≤ n0 ∧ dp.toNatClampNeg + n.toNatClampNeg ≤ n1 ∧ (∀ i, i < n.toNatClampNeg → fitB (f (sp.toNatClampNeg + i))) then some (hPut h a (.inl (2, n1, .inl (va_cpy f g sp.toNatClampNeg dp.toNatClampNeg n.toNatClampNeg)))) else none
  | _, _ => none
theorem z_copyB {β : Type} {K : zH → Option β} {w : β} {index a0 a : Nat} {sp dp n : Int32} (hd : decode (zcc X) pc = .ok (.invokestatic index, 3)) (hlk : Cond.methodLink X.1.cls index arraycopyName ∈ GW) (hnat : Cond.native arraycopyName ∈ GW) (hsta : Cond.static arraycopyName ∈ GW) (hini : Cond.initialized "java/lang/System" ∈ GW) (hdd : 8 ≤ d) (hst : (st.map fun v => v.category).sum ≤ 8)
    (hf : (cpB h a0 sp a dp n).bind K = some w) (kk : ∀ h1 : zH, K h1 = some w → Z Γ X d h0 o (pc + 3) lv st h1) : Z Γ X d h0 o pc lv (.int n :: .int dp :: .ref a :: .int sp :: .ref a0 :: st) h := by
  obtain ⟨h1, hf1, hf2⟩ := Option.bind_eq_some_iff.mp hf
  have kk := kk _ hf2
  unfold cpB at hf1
  split at hf1
  · next k0 n0 f k1 n1 g he0 he1 =>
    split at hf1
    · next hc =>
      obtain ⟨rfl, rfl, h1, h2, h3, h4, h5, h6⟩ := hc
      cases hf1
      refine ⟨kk.1, fun hle p l e R s m args below meth c H locs ls C hRp hSv hl => ?_⟩
      have hts := C.2.2.2.2.2.2.1
      have hR1 := C.2.2.2.2.2.2.2.2.2.2.1
      have hR2 := C.2.2.2.2.2.2.2.2.2.2.2.1
      have nn : ∀ z : Int32, ¬ z < 0 → z.toInt = (z.toNatClampNeg : Int) := by
        intro z hz
        have hz0 : (0 : Int) ≤ z.toInt := by
          have := Int32.not_lt.mp hz
          simpa using Int32.le_iff_toInt_le.mp this
        show z.toInt = ((z.toInt.toNat : Nat) : Int)
        omega
      intro T hT Xs
      have hc0 : H[a0]? = some (vp_cell (Γ.2.1 2) (n0, .inl f)) := (hRp.l he0).2
      have hc1 : H[a]? = some (vp_cell (Γ.2.1 2) (n1, .inl g)) := (hRp.l he1).2
      obtain ⟨-, kA, hkA, cmA, hkkA⟩ := (C.2.2.2.2.2.2.2.2.1.1.2 2 _ (ztys_at Γ.2.1 (k := 2) (by decide))).1 n0 (fun j => .int (f j))
      obtain ⟨vm', X', step⟩ := Xs.arraycopy C.1 C.2.2.2.2.1 (hts _ hlk) (hts _ hnat) (hts _ hsta) (hts _ hini) (src := a0) (dst := a) (cs := vp_cell (Γ.2.1 2) (n0, .inl f)) (cd := vp_cell (Γ.2.1 2) (n1, .inl g)) (srcPos := sp) (destPos := dp) (n := n) (by rw [hT]; exact hc0) (by rw [hT]; exact hc1)
        (fun _ h => by cases h) (fun _ h => by cases h) (fun h => by cases h) (fun h => by cases h) hkA hkA hkkA hkkA (by simp [zaty, refKind]) h1 h2 h3
        (by rw [nn sp h1, nn n h3]; show ¬ _ > ((arrV (Γ.2.1 2) n0 (fun j => .int (f j))).slots.size : Int); rw [arrV_size]; omega)
        (by rw [nn dp h2, nn n h3]; show ¬ _ > ((arrV (Γ.2.1 2) n1 (fun j => .int (g j))).slots.size : Int); rw [arrV_size]; omega)
        (fun vm₁ _ i hi => by
          have e : (vp_cell (Γ.2.1 2) (n0, .inl f)).slots.getD (sp.toNatClampNeg + i) .null = .int (f (sp.toNatClampNeg + i)) := by
            show (arrV (Γ.2.1 2) n0 (fun j => .int (f j))).slots.getD _ _ = _
            rw [Array.getD_eq_getD_getElem?, arrV_read _ _ (by omega)]
            rfl
          refine ⟨?_, ?_⟩
          · rw [e]
            exact fitB_of (h6 i hi)
          · rw [e]
            exact trivial)
        (g := F0 m pc ls (.int n :: .int dp :: .ref a :: .int sp :: .ref a0 :: st)) rfl (hl.1.trans C.2.2.2.1.symm) (rest := st) rfl (by rw [C.2.1]; exact hd) (by omega) (by
          have e9 : nativeFrameWords "java/lang/System" "arraycopy" 5 ≤ 100 := by decide +kernel
          show 2 * 0 + _ + _ ≤ _
          omega)
      have e1 : copied (vp_cell (Γ.2.1 2) (n0, .inl f)) (vp_cell (Γ.2.1 2) (n1, .inl g)) sp dp n = vp_cell (Γ.2.1 2) (n1, .inl (va_cpy f g sp.toNatClampNeg dp.toNatClampNeg n.toNatClampNeg)) := va_copied (fun z => .int z) (Γ.2.1 2) (Γ.2.1 2) f g h4
      rw [e1] at X' step
      have hlt : a < H.size := (Array.getElem?_eq_some_iff.mp hc1).1
      have oq : ∀ q : Nat, q ≠ a → (H.setIfInBounds a (vp_cell (Γ.2.1 2) (n1, .inl (va_cpy f g sp.toNatClampNeg dp.toNatClampNeg n.toNatClampNeg))))[q]? = H[q]? := fun q hq => by simp [Array.getElem?_setIfInBounds, Ne.symm hq]
      have hA := (hRp.l he1).1
      have hat : va_at Γ.1 vwCl (a, ztoE Γ.2.1 (.inl (2, n1, .inl (va_cpy f g sp.toNatClampNeg dp.toNatClampNeg n.toNatClampNeg)))) (H.setIfInBounds a (vp_cell (Γ.2.1 2) (n1, .inl (va_cpy f g sp.toNatClampNeg dp.toNatClampNeg n.toNatClampNeg)))) := by
        show (H.setIfInBounds a _)[a]? = some _
        simp [Array.getElem?_setIfInBounds, hlt]
      obtain ⟨t, a1, b1⟩ := kk.2 hle p l e R s m args below meth c _ _ ls C (hRp.put he1 zRl_l hat zRl_l (by simp) oq) ⟨by simp; exact hSv.1, fun q g1 g2 => by
          rw [oq q (fun e => g2 (by rw [e]; exact hA))]
          exact hSv.2.1 q g1 g2, fun q hq => by
          rcases List.mem_append.mp hq with h | h
          · exact hSv.2.2 q h
          · obtain ⟨z, -, hz⟩ := List.mem_map.mp h
            rw [← hz]
            exact hA⟩ hl ((T.setVm vm').setCell a (vp_cell (Γ.2.1 2) (n1, .inl (va_cpy f g sp.toNatClampNeg dp.toNatClampNeg n.toNatClampNeg)))) (by rw [← hT]; rfl) X'
      exact ⟨t, step t a1, b1⟩
    · cases hf1
  · cases hf1

def cnI (h : zH) (a : Nat) : Option (Nat × zH) := match hM h a with
  | some (.inl (k, n, .inl f)) => if k = 0 then some (hS h, hNew h (.inl (0, n, .inl f)) n) else none
  | _ => none
def cnB (h : zH) (a : Nat) : Option (Nat × zH) := match hM h a with
  | some (.inl (k, n, .inl f)) => if k = 2 ∧ (∀ i, i < n → fitB (f i)) then some (hS h, hNew h (.inl (2, n, .inl f)) n) else none
  | _ => none
/-- clone() of a row of numbers -/
theorem z_clone {index a k n : Nat} {f : Nat → Int32} {ad : String} (hd : decode (zcc X) pc = .ok (.invokevirtual index, 3)) (hk : k < 8) (he : hM h a = some (.inl (k, n, .inl f))) (hfit : ∀ i, i < n → fits (zaty k) (.int (f i)) = true) (hnm : va_RA_ad k ad)
    (hlk : Cond.methodLink X.1.cls index ⟨ad, "clone", "()Ljava/lang/Object;"⟩ ∈ GW) (hsame : Cond.sameMethod ad "java/lang/Object" "clone" "()Ljava/lang/Object;" ∈ GW) (hnat : Cond.native ⟨"java/lang/Object", "clone", "()Ljava/lang/Object;"⟩ ∈ GW) (hinst : Cond.instanceMethod ⟨"java/lang/Object", "clone", "()Ljava/lang/Object;"⟩ ∈ GW) (hsel : Cond.selects ad ⟨ad, "clone", "()Ljava/lang/Object;"⟩ ⟨"java/lang/Object", "clone", "()Ljava/lang/Object;"⟩ ∈ GW) (hcast : Cond.castable ad "java/lang/Cloneable" ∈ lw_tbl)
    (hdd : 8 ≤ d) (hst : (st.map fun v => v.category).sum ≤ 8) (kk : Z Γ X d h0 o (pc + 3) lv (.ref (hS h) :: st) (hNew h (.inl (k, n, .inl f)) n)) : Z Γ X d h0 o pc lv (.ref a :: st) h := by
  refine ⟨zle.tr ⟨Nat.le_succ _, Nat.le_add_right _ _⟩ kk.1, fun hle p l e R s m args below meth c H locs ls C hRp hSv hl => ?_⟩
  have hsz := hRp.1
  obtain ⟨h9a, h9b⟩ := kk.1
  have e0 : hS (hNew h (.inl (k, n, .inl f)) n) = hS h + 1 := rfl
  have e2 : hN (hNew h (.inl (k, n, .inl f)) n) = hN h + n := rfl
  rw [e0] at h9a
  rw [e2] at h9b
  have hts := C.2.2.2.2.2.2.1
  have hKK := C.2.2.2.2.2.2.2.2.1
  have hf1 := C.2.2.2.2.2.2.2.2.2.2.1
  have hf2 := C.2.2.2.2.2.2.2.2.2.2.2.1
  have hR1 := C.2.2.2.2.2.2.2.2.2.2.2.2.1
  have hR2 := C.2.2.2.2.2.2.2.2.2.2.2.2.2.1
  obtain ⟨hla, hlb⟩ := hle
  obtain ⟨hArr, hRA⟩ := hKK.1.2 k _ (ztys_at Γ.2.1 hk)
  have hnm2 : s.vm.findClass ad = some (Γ.2.1 k) := hnm hRA
  have hcell : H[a]? = some (vp_cell (Γ.2.1 k) (n, .inl f)) := (hRp.l he).2
  have hcl : va_Nw (.castable ad "java/lang/Cloneable") s := hKK.2.2.2.2.2.2.2.2.2.2.1 _ hcast rfl
  obtain ⟨c0, t0', f1, f2, f3⟩ := Cond.castable_spec (va_Nw.use (A := args) rfl hcl)
  cases hnm2.symm.trans f1
  have hvm0 : (vp_cell (Γ.2.1 k) (n, .inl f)).vm = .none := rfl
  have hcl0 : (vp_cell (Γ.2.1 k) (n, .inl f)).cls = Γ.2.1 k := rfl
  have hszc : (vp_cell (Γ.2.1 k) (n, .inl f)).slots.size = n := arrV_size _ _ _
  intro T hT Xs
  obtain ⟨-, kA, hkA, comp, hkind⟩ := State.isArrayOf_alike Xs.warmed.alike (hArr 0 (fun _ => .null))
  obtain ⟨-, kS, hkS, compS, hkindS⟩ := hArr 0 (fun _ => .null)
  obtain ⟨vm', X', step⟩ := Xs.cloneArray C.1 C.2.2.2.2.1 (hts _ hlk) (hts _ hsame) (hts _ hnat) (hts _ hinst) (hts _ hsel) (a := a) (cell := vp_cell (Γ.2.1 k) (n, .inl f)) (by rw [hT]; exact hcell) (fun k h => by cases h) (fun h => by cases h) (by rw [hcl0]; exact hnm2) f2 (by rw [hcl0]; exact f3)
    (fun i v hv => by
      rw [hcl0]
      have hk' : T.vm.classes[Γ.2.1 k]? = some kA := hkA
      have hi : i < n := by
        have := (Array.getElem?_eq_some_iff.mp hv).1
        rw [hszc] at this
        exact this
      have hv2 : v = .int (f i) := by
        have h3 : (arrV (Γ.2.1 k) n (fun j => .int (f j))).slots[i]? = some v := hv
        rw [arrV_read _ _ hi] at h3
        exact (Option.some.inj h3).symm
      simpa [State.fitsSlot, State.slotType?, hk', hkind, hv2] using hfit i hi)
    (g := F0 m pc ls (.ref a :: st)) rfl (hl.1.trans C.2.2.2.1.symm) rfl (by rw [C.2.1]; exact hd) (by omega) (by show 2 * 0 + _ + 14 ≤ _; omega) (by omega) (by rw [hszc]; omega) (hloader := by rw [hcl0]; exact Vm.clonesLoader_of_array hkS hkindS)
  have hcellE : ({ cls := (vp_cell (Γ.2.1 k) (n, .inl f)).cls, slots := (vp_cell (Γ.2.1 k) (n, .inl f)).slots } : Cell) = vp_cell (Γ.2.1 k) (n, .inl f) := rfl
  rw [hcellE, hszc] at X'
  have z1 : (H.push (vp_cell (Γ.2.1 k) (n, .inl f))).size = H.size + 1 := by rw [Array.size_push]
  have e1 : (H.push (vp_cell (Γ.2.1 k) (n, .inl f)))[H.size]? = some (vp_cell (Γ.2.1 k) (n, .inl f)) := by rw [Array.getElem?_push_size]
  have o1 : ∀ q : Nat, q < H.size → (H.push (vp_cell (Γ.2.1 k) (n, .inl f)))[q]? = H[q]? := fun q hq => by rw [Array.getElem?_push, if_neg (Nat.ne_of_lt hq)]
  have key := kk.2 ⟨by omega, by omega⟩ p l e R s m args below meth c _ locs ls C (hRp.new e1 zRl_l z1 o1) (zS.new hSv z1 o1) hl
  rw [e0, e2, show hS h + 1 - hS h0 = hS h - hS h0 + 1 by omega, show hN h + n - hN h0 = hN h - hN h0 + n by omega] at key
  obtain ⟨t, b1, b2⟩ := key ((T.setVm vm').pushCell (vp_cell (Γ.2.1 k) (n, .inl f))) (by rw [← hT]; rfl) X'
  refine ⟨t, step t ?_, b2⟩
  rw [hcellE, hT, hsz]
  exact b1
theorem z_cnI {β : Type} {K : Nat × zH → Option β} {w : β} {index a : Nat} (hd : decode (zcc X) pc = .ok (.invokevirtual index, 3)) (hlk : Cond.methodLink X.1.cls index ⟨"[I", "clone", "()Ljava/lang/Object;"⟩ ∈ GW) (hsame : Cond.sameMethod "[I" "java/lang/Object" "clone" "()Ljava/lang/Object;" ∈ GW) (hnat : Cond.native ⟨"java/lang/Object", "clone", "()Ljava/lang/Object;"⟩ ∈ GW) (hinst : Cond.instanceMethod ⟨"java/lang/Object", "clone", "()Ljava/lang/Object;"⟩ ∈ GW) (hsel : Cond.selects "[I" ⟨"[I", "clone", "()Ljava/lang/Object;"⟩ ⟨"java/lang/Object", "clone", "()Ljava/lang/Object;"⟩ ∈ GW) (hcast : Cond.castable "[I" "java/lang/Cloneable" ∈ lw_tbl)
    (hdd : 8 ≤ d) (hst : (st.map fun v => v.category).sum ≤ 8) (hf : (cnI h a).bind K = some w) (kk : ∀ y : Nat × zH, K y = some w → (∃ x, hM y.2 y.1 = some (.inl (0, x))) → Z Γ X d h0 o (pc + 3) lv (.ref y.1 :: st) y.2) : Z Γ X d h0 o pc lv (.ref a :: st) h := by
  obtain ⟨y, h2, h3⟩ := Option.bind_eq_some_iff.mp hf
  unfold cnI at h2
  split at h2
  · next k n f he =>
    split at h2
    · next hc =>
      subst hc
      cases h2
      exact z_clone hd (by decide) he (fun i _ => rfl) (fun hr => hr) hlk hsame hnat hinst hsel hcast hdd hst (kk _ h3 ⟨_, by simp [hM, hNew, hS]; rfl⟩)
    · cases h2
  · cases h2
theorem z_cnB {β : Type} {K : Nat × zH → Option β} {w : β} {index a : Nat} (hd : decode (zcc X) pc = .ok (.invokevirtual index, 3)) (hlk : Cond.methodLink X.1.cls index ⟨"[B", "clone", "()Ljava/lang/Object;"⟩ ∈ GW) (hsame : Cond.sameMethod "[B" "java/lang/Object" "clone" "()Ljava/lang/Object;" ∈ GW) (hnat : Cond.native ⟨"java/lang/Object", "clone", "()Ljava/lang/Object;"⟩ ∈ GW) (hinst : Cond.instanceMethod ⟨"java/lang/Object", "clone", "()Ljava/lang/Object;"⟩ ∈ GW) (hsel : Cond.selects "[B" ⟨"[B", "clone", "()Ljava/lang/Object;"⟩ ⟨"java/lang/Object", "clone", "()Ljava/lang/Object;"⟩ ∈ GW) (hcast : Cond.castable "[B" "java/lang/Cloneable" ∈ lw_tbl)
    (hdd : 8 ≤ d) (hst : (st.map fun v => v.category).sum ≤ 8) (hf : (cnB h a).bind K = some w) (kk : ∀ y : Nat × zH, K y = some w → (∃ x, hM y.2 y.1 = some (.inl (2, x))) → Z Γ X d h0 o (pc + 3) lv (.ref y.1 :: st) y.2) : Z Γ X d h0 o pc lv (.ref a :: st) h := by
  obtain ⟨y, h2, h3⟩ := Option.bind_eq_some_iff.mp hf
  unfold cnB at h2
  split at h2
  · next k n f he =>
    split at h2
    · next hc =>
      obtain ⟨rfl, hfit⟩ := hc
      cases h2
      exact z_clone hd (by decide) he (fun i hi => fitB_of (hfit i hi)) (fun hr => hr) hlk hsame hnat hinst hsel hcast hdd hst (kk _ h3 ⟨_, by simp [hM, hNew, hS]; rfl⟩)
    · cases h2
  · cases h2
theorem z_castA {index a k : Nat} {nm : String} {x : vp_A} (hd : decode (zcc X) pc = .ok (.checkcast index, 3)) (hk : k < 8) (he : hM h a = some (.inl (k, x))) (hnm : va_RA_ad k nm) (hlk : Cond.classLink X.1.cls index nm ∈ GW) (kk : Z Γ X d h0 o (pc + 3) lv (.ref a :: st) h) : Z Γ X d h0 o pc lv (.ref a :: st) h :=
  ⟨kk.1, fun hle p l e R s m args below meth c H locs ls C hRp hSv hl => va_castA C.1 C.2.1 C.2.2.2.2.1 (C.2.2.2.2.2.2.1 _ hlk) (zP1 (hRp.l he).2) 0 rfl (hnm (C.2.2.2.2.2.2.2.2.1.1.2 k _ (ztys_at Γ.2.1 hk)).2) hd (kk.2 hle p l e R s m args below meth c H locs ls C hRp hSv hl)⟩
/-- a field that may be null -/
def gO (h : zH) (a c k : Nat) : Option (Option Nat) := match gF h a c k with
  | some (.ref x) => some (some x)
  | some .null => some none
  | _ => none
theorem z_getO {β : Type} {A : Option β} {B : Nat → Option β} {w : β} {index : Nat} {a c k : Nat} {N : Nat} {C O : String} {T : u_T} {ty : Nat → FieldType} (hd : decode (zcc X) pc = .ok (.getfield index, 3)) (hcl : zClsO c C O T N ty) (hk : k < N) (hlk : Cond.fieldLink X.1.cls index O (T k).2.1 (T k).2.2.1 ∈ GW) (hf : ((gO h a c k).bind fun z => znl z A B) = some w) (kn : A = some w → Z Γ X d h0 o (pc + 3) lv (.null :: st) h) (kk : ∀ x : Nat, B x = some w → Z Γ X d h0 o (pc + 3) lv (.ref x :: st) h) : Z Γ X d h0 o pc lv (.ref a :: st) h := by
  obtain ⟨z, h1, h2⟩ := Option.bind_eq_some_iff.mp hf
  unfold gO at h1
  split at h1
  · next x he => cases h1; exact z_getV c k hd hcl hk hlk he (kk x h2)
  · next he => cases h1; exact z_getV c k hd hcl hk hlk he (kn h2)
  · cases h1
/-- a place that may hold null -/
def ldO (h : zH) (a : Nat) (i : Int32) : Option (Option Nat) := match hM h a with
  | some (.inl (k, n, .inr (.inr (.inr (.inr f))))) => if k = 7 ∧ ¬ i < 0 ∧ i.toNatClampNeg < n then some (f i.toNatClampNeg) else none
  | _ => none
theorem z_aaldO {β : Type} {A : Option β} {B : Nat → Option β} {w : β} {a : Nat} {i : Int32} (hd : decode (zcc X) pc = .ok (.aaload, 1)) (hf : ((ldO h a i).bind fun z => znl z A B) = some w) (kn : A = some w → Z Γ X d h0 o (pc + 1) lv (.null :: st) h) (kk : ∀ x : Nat, B x = some w → Z Γ X d h0 o (pc + 1) lv (.ref x :: st) h) : Z Γ X d h0 o pc lv (.int i :: .ref a :: st) h := by
  obtain ⟨z, h1, h2⟩ := Option.bind_eq_some_iff.mp hf
  unfold ldO at h1
  split at h1
  · next k n f he =>
    split at h1
    · next hc =>
      obtain ⟨rfl, hin⟩ := hc
      have hz := Option.some.inj h1
      have hin' : zix i n := hin
      have go : ∀ v : Value, va_rf z = v → Z Γ X d h0 o (pc + 1) lv (v :: st) h → Z Γ X d h0 o pc lv (.int i :: .ref a :: st) h := fun v hv kv => by
        refine ⟨kv.1, fun hle p l e R s m args below meth c0 H locs ls C0 hRp hSv hl => ?_⟩
        have hA := (C0.2.2.2.2.2.2.2.2.1.1.2 7 _ (ztys_at Γ.2.1 (k := 7) (by decide))).1 n (fun j => va_rf (f j))
        have hP : H[a]? = some (arrV (Γ.2.1 7) n (fun j => va_rf (f j))) := (hRp.l he).2
        refine W.aald (v := v) C0.1 C0.2.1 hP hA rfl (fun q => by cases q) ?_ ?_ rfl rfl hd (kv.2 hle p l e R s m args below meth c0 H locs ls C0 hRp hSv hl)
        · rw [arrV_size]; exact hin'.vp
        · rw [arrV_read _ _ hin.2, hz, hv]
      cases z with
      | none => exact go .null rfl (kn h2)
      | some x => exact go (.ref x) rfl (kk x h2)
    · cases h1
  · cases h1
def stN (h : zH) (a : Nat) (i : Int32) : Option zH := match hM h a with
  | some (.inl (k, n, .inr (.inr (.inr (.inr f))))) => if k = 7 ∧ ¬ i < 0 ∧ i.toNatClampNeg < n then some (hPut h a (.inl (7, n, .inr (.inr (.inr (.inr (va_up f i.toNatClampNeg none))))))) else none
  | _ => none
theorem z_aastN {β : Type} {K : zH → Option β} {w : β} {a : Nat} {i : Int32} (hd : decode (zcc X) pc = .ok (.aastore, 1)) (hf : (stN h a i).bind K = some w) (kk : ∀ h1 : zH, K h1 = some w → Z Γ X d h0 o (pc + 1) lv st h1) : Z Γ X d h0 o pc lv (.null :: .int i :: .ref a :: st) h := by
  obtain ⟨h1, h2, h3⟩ := Option.bind_eq_some_iff.mp hf
  have kk := kk _ h3
  unfold stN at h2
  split at h2
  · next k n f he =>
    split at h2
    · next hc =>
      obtain ⟨rfl, hin⟩ := hc
      have hin' : zix i n := hin
      cases h2
      refine ⟨kk.1, fun hle p l e R s m args below meth c0 H locs ls C0 hRp hSv hl => ?_⟩
      have hA := (C0.2.2.2.2.2.2.2.2.1.1.2 7 _ (ztys_at Γ.2.1 (k := 7) (by decide))).1 n (fun j => va_rf (f j))
      have hP : H[a]? = some (arrV (Γ.2.1 7) n (fun j => va_rf (f j))) := (hRp.l he).2
      refine va_WaastN (C := RX12) C0.1 C0.2.1 hP hA (fun h => by cases h) (by rw [arrV_size]; exact hin'.vp) rfl rfl hd fun H1 e1 z1 o1 => ?_
      refine kk.2 hle p l e R s m args below meth c0 H1 _ ls C0 (hRp.put he zRl_l ?_ zRl_l z1 o1) (hSv.put z1 o1 (hRp.l he).1) hl
      show H1[a]? = some (vp_cell _ _)
      rw [e1, vp_cell_q, arrV_store]
      congr 2
      funext q
      by_cases hq : q = i.toNatClampNeg
      · subst hq
        simp [updV, va_up, va_rf]
      · simp [updV, va_up, hq]
    · cases h2
  · cases h2
/-- a row into a row of rows -/
def stR (h : zH) (a : Nat) (i : Int32) (v : Nat) : Option zH := match hM h a, hM h v with
  | some (.inl (k, n, .inr (.inr (.inr (.inr f))))), some (.inl (k2, _)) => if k = 6 ∧ k2 = 5 ∧ ¬ i < 0 ∧ i.toNatClampNeg < n then some (hPut h a (.inl (6, n, .inr (.inr (.inr (.inr (va_up f i.toNatClampNeg (some v)))))))) else none
  | _, _ => none
theorem z_aastR {β : Type} {K : zH → Option β} {w : β} {a v : Nat} {i : Int32} (hd : decode (zcc X) pc = .ok (.aastore, 1)) (hov : Cond.arrayOver (.array (.object RX9)) ∈ lw_tbl) (hf : (stR h a i v).bind K = some w) (kk : ∀ h1 : zH, K h1 = some w → Z Γ X d h0 o (pc + 1) lv st h1) : Z Γ X d h0 o pc lv (.ref v :: .int i :: .ref a :: st) h := by
  obtain ⟨h1, h2, h3⟩ := Option.bind_eq_some_iff.mp hf
  have kk := kk _ h3
  unfold stR at h2
  split at h2
  · next k n f k2 x he hev =>
    split at h2
    · next hc =>
      obtain ⟨rfl, rfl, hin⟩ := hc
      have hin' : zix i n := hin
      cases h2
      refine ⟨kk.1, fun hle p l e R s m args below meth c0 H locs ls C0 hRp hSv hl => ?_⟩
      have hK := C0.2.2.2.2.2.2.2.2.1.1
      have hov2 := C0.2.2.2.2.2.2.2.2.1.2.2.2.2.2.2.2.2.2.2.1 _ hov rfl
      obtain ⟨comp, cA, kA, k1, -, k3, k4, k5⟩ := arrayOverA_spec hov2
      have hRA6 : s.vm.findClass ("[" ++ (FieldType.array (.object RX9)).toString) = some (Γ.2.1 6) := (hK.2 6 _ (ztys_at Γ.2.1 (k := 6) (by decide))).2
      have hcA : cA = Γ.2.1 6 := Option.some.inj (k5.symm.trans hRA6)
      subst hcA
      obtain ⟨kE, hkE, -⟩ := Vm.findClass_spec k1
      have hRA5 : s.vm.findClass (FieldType.array (.object RX9)).toString = some (Γ.2.1 5) := by
        obtain ⟨_, _, -, -, -, g4⟩ := (hK.2 5 _ (ztys_at Γ.2.1 (k := 5) (by decide))).2
        exact g4
      have hcomp : comp = Γ.2.1 5 := Option.some.inj (k1.symm.trans hRA5)
      have hP : H[a]? = some (arrV (Γ.2.1 6) n (fun j => va_rf (f j))) := (hRp.l he).2
      have hV : H[v]? = some (vp_cell (Γ.2.1 5) x) := (hRp.l hev).2
      have hvm0 : (vp_cell (Γ.2.1 5) x).vm = .none := by
        obtain ⟨n, f | f | f | f | f⟩ := x <;> rfl
      have hcl0 : (vp_cell (Γ.2.1 5) x).cls = Γ.2.1 5 := by
        obtain ⟨n, f | f | f | f | f⟩ := x <;> rfl
      refine W.aast C0.1 C0.2.1 hP (fun q h => by cases h) (fun h => by cases h) k3 k4 rfl hkE ⟨hin.1, by show _ < (arrV _ _ _).slots.size; rw [arrV_size]; exact hin.2⟩ hV (fun q h => by rw [hvm0] at h; cases h) (by rw [hcl0, ← hcomp]; exact hkE) (by rw [hcl0, hcomp]; exact va_asg _ _) rfl rfl hd fun H1 e1 z1 o1 => ?_
      refine kk.2 hle p l e R s m args below meth c0 H1 _ ls C0 (hRp.put he zRl_l ?_ zRl_l z1 o1) (hSv.put z1 o1 (hRp.l he).1) hl
      show H1[a]? = some (vp_cell _ _)
      rw [e1, vp_cell_q, arrV_store]
      congr 2
      funext q
      by_cases hq : q = i.toNatClampNeg
      · subst hq
        simp [updV, va_up, va_rf]
      · simp [updV, va_up, hq]
    · cases h2
  · cases h2
def nwR (h : zH) (i : Int32) : Option (Nat × zH) := if ¬ i < 0 ∧ i.toNatClampNeg ≤ 100000 then some (hS h, hNew h (.inl (6, i.toNatClampNeg, .inr (.inr (.inr (.inr (fun _ => none)))))) i.toNatClampNeg) else none
theorem z_nwR {β : Type} {K : Nat × zH → Option β} {w : β} {index : Nat} {i : Int32} (hd : decode (zcc X) pc = .ok (.anewarray index, 3)) (hlk : Cond.classLink X.1.cls index (FieldType.array (.object RX9)).toString ∈ GW) (hov : Cond.arrayOver (.array (.object RX9)) ∈ lw_tbl)
    (hf : (nwR h i).bind K = some w) (kk : ∀ y : Nat × zH, K y = some w → Z Γ X d h0 o (pc + 3) lv (.ref y.1 :: st) y.2) : Z Γ X d h0 o pc lv (.int i :: st) h := by
  obtain ⟨⟨q, h1⟩, h2, h3⟩ := Option.bind_eq_some_iff.mp hf
  have kk := kk _ h3
  unfold nwR at h2
  split at h2
  · next hc =>
    obtain ⟨hn, hm⟩ := hc
    cases h2
    replace kk : Z Γ X d h0 o (pc + 3) lv (.ref (hS h) :: st) (hNew h (.inl (6, i.toNatClampNeg, .inr (.inr (.inr (.inr (fun _ => none)))))) i.toNatClampNeg) := kk
    refine ⟨zle.tr ⟨Nat.le_succ _, Nat.le_add_right _ _⟩ kk.1, fun hle p l e R s m args below meth c0 H locs ls C0 hRp hSv hl => ?_⟩
    have hsz := hRp.1
    have h9 : zle (hNew h (.inl (6, i.toNatClampNeg, .inr (.inr (.inr (.inr (fun _ => none)))))) i.toNatClampNeg) o.2 := kk.1
    obtain ⟨h9a, h9b⟩ := h9
    have e0 : hS (hNew h (.inl (6, i.toNatClampNeg, .inr (.inr (.inr (.inr (fun _ => none)))))) i.toNatClampNeg) = hS h + 1 := rfl
    have e2 : hN (hNew h (.inl (6, i.toNatClampNeg, .inr (.inr (.inr (.inr (fun _ => none)))))) i.toNatClampNeg) = hN h + i.toNatClampNeg := rfl
    rw [e0] at h9a
    rw [e2] at h9b
    have hR1 := C0.2.2.2.2.2.2.2.2.2.2.2.2.1
    have hR2 := C0.2.2.2.2.2.2.2.2.2.2.2.2.2.1
    obtain ⟨hla, hlb⟩ := hle
    have hov2 := C0.2.2.2.2.2.2.2.2.1.2.2.2.2.2.2.2.2.2.2.1 _ hov rfl
    have hRA : s.vm.findClass ("[" ++ (FieldType.array (.object RX9)).toString) = some (Γ.2.1 6) := (C0.2.2.2.2.2.2.2.2.1.1.2 6 _ (ztys_at Γ.2.1 (k := 6) (by decide))).2
    refine W.anewA (t := .object RX9) C0.1 C0.2.1 C0.2.2.2.2.1 (C0.2.2.2.2.2.2.1 _ hlk) hov2 rfl hd rfl hn (by omega) (by omega) (by omega) fun cA kA comp f1 f2 f3 f4 => ?_
    generalize hH1 : H.push ({ cls := cA, slots := Array.replicate i.toNatClampNeg .null, vm := .none } : Cell) = H1
    have z1 : H1.size = H.size + 1 := by rw [← hH1, Array.size_push]
    have e1 : H1[H.size]? = some (arrV cA i.toNatClampNeg (fun _ => .null)) := by rw [← hH1, Array.getElem?_push_size, ← arrV_new]
    have o1 : ∀ q : Nat, q < H.size → H1[q]? = H[q]? := fun q hq => by rw [← hH1, Array.getElem?_push, if_neg (Nat.ne_of_lt hq)]
    have hcA : cA = Γ.2.1 6 := Option.some.inj (f1.symm.trans hRA)
    subst hcA
    have key := kk.2 ⟨by omega, by omega⟩ p l e R s m args below meth c0 H1 locs ls C0 (hRp.new (by
      show H1[H.size]? = some (vp_cell _ _)
      rw [vp_cell_q]
      exact e1) zRl_l z1 o1) (zS.new hSv z1 o1) hl
    rw [hsz]
    rw [e0, e2, show hS h + 1 - hS h0 = hS h - hS h0 + 1 by omega, show hN h + i.toNatClampNeg - hN h0 = hN h - hN h0 + i.toNatClampNeg by omega] at key
    exact key
  · cases h2
/-- digits' tables, the words of a price -/
def ldD1 (i : Int32) : Option Int32 := if ¬ i < 0 ∧ i.toNatClampNeg < 100 then some (Int32.ofNat (48 + i.toNatClampNeg % 10)) else none
def ldD2 (i : Int32) : Option Int32 := if ¬ i < 0 ∧ i.toNatClampNeg < 100 then some (Int32.ofNat (48 + i.toNatClampNeg / 10)) else none
def ldV (κ : Nat → Nat) (i : Int32) : Option Nat := if ¬ i < 0 ∧ i.toNatClampNeg < 4 then some (κ (5 + i.toNatClampNeg)) else none
theorem z_gsD1 {index : Nat} (hd : decode (zcc X) pc = .ok (.getstatic index, 3)) (hlk : Cond.fieldLink X.1.cls index "java/lang/Integer" "DigitOnes" "[B" ∈ GW) (kk : Z Γ X d h0 o (pc + 3) lv (.ref (zVa Γ 100) :: st) h) : Z Γ X d h0 o pc lv st h :=
  ⟨kk.1, fun hle p l e R s m args below meth c H locs ls C hRp hSv hl => va_gets C.1 C.2.1 C.2.2.2.2.2.2.2.2.1.2.2.2.2.2.2.2.2.2.2.2.2.2.2.1.1 hSv C.2.2.2.2.1 (C.2.2.2.2.2.2.1 _ hlk) (fun _ h => h) hd (kk.2 hle p l e R s m args below meth c H locs ls C hRp hSv hl)⟩
theorem z_gsD2 {index : Nat} (hd : decode (zcc X) pc = .ok (.getstatic index, 3)) (hlk : Cond.fieldLink X.1.cls index "java/lang/Integer" "DigitTens" "[B" ∈ GW) (kk : Z Γ X d h0 o (pc + 3) lv (.ref (zVa Γ 101) :: st) h) : Z Γ X d h0 o pc lv st h :=
  ⟨kk.1, fun hle p l e R s m args below meth c H locs ls C hRp hSv hl => va_gets C.1 C.2.1 C.2.2.2.2.2.2.2.2.1.2.2.2.2.2.2.2.2.2.2.2.2.2.2.2.1.1 hSv C.2.2.2.2.1 (C.2.2.2.2.2.2.1 _ hlk) (fun _ h => h) hd (kk.2 hle p l e R s m args below meth c H locs ls C hRp hSv hl)⟩
theorem z_gsV {index : Nat} (hd : decode (zcc X) pc = .ok (.getstatic index, 3)) (hlk : Cond.fieldLinkNest X.1.cls index RL "VARIABLES" "[Ljava/lang/String;" RL ∈ lw_tbl) (kk : Z Γ X d h0 o (pc + 3) lv (.ref (zVa Γ 102) :: st) h) : Z Γ X d h0 o pc lv st h :=
  ⟨kk.1, fun hle p l e R s m args below meth c H locs ls C hRp hSv hl => va_getsN C.1 C.2.1 C.2.2.2.2.2.2.2.2.1.2.2.2.2.2.2.2.2.2.2.2.2.2.2.2.2.1 hSv C.2.2.2.2.1 (va_Nw.use rfl (C.2.2.2.2.2.2.2.2.1.2.2.2.2.2.2.2.2.2.2.1 _ hlk rfl)) (fun _ h => h) hd (kk.2 hle p l e R s m args below meth c H locs ls C hRp hSv hl)⟩
theorem z_baD1 {β : Type} {K : Int32 → Option β} {w : β} {i : Int32} (hd : decode (zcc X) pc = .ok (.baload, 1)) (hf : (ldD1 i).bind K = some w) (kk : ∀ x : Int32, K x = some w → Z Γ X d h0 o (pc + 1) lv (.int x :: st) h) : Z Γ X d h0 o pc lv (.int i :: .ref (zVa Γ 100) :: st) h := by
  obtain ⟨x, h1, h2⟩ := Option.bind_eq_some_iff.mp hf
  unfold ldD1 at h1
  split at h1
  · next hc =>
    have hj : zix i 100 := hc
    cases h1
    exact ⟨(kk _ h2).1, fun hle p l e R s m args below meth c H locs ls C hRp hSv hl => va_tb C.1 C.2.1 C.2.2.2.2.2.2.2.2.1.2.2.2.2.2.2.2.2.2.2.2.2.2.2.1.2 hSv hj.vp rfl hd ((kk _ h2).2 hle p l e R s m args below meth c H locs ls C hRp hSv hl)⟩
  · cases h1
theorem z_baD2 {β : Type} {K : Int32 → Option β} {w : β} {i : Int32} (hd : decode (zcc X) pc = .ok (.baload, 1)) (hf : (ldD2 i).bind K = some w) (kk : ∀ x : Int32, K x = some w → Z Γ X d h0 o (pc + 1) lv (.int x :: st) h) : Z Γ X d h0 o pc lv (.int i :: .ref (zVa Γ 101) :: st) h := by
  obtain ⟨x, h1, h2⟩ := Option.bind_eq_some_iff.mp hf
  unfold ldD2 at h1
  split at h1
  · next hc =>
    have hj : zix i 100 := hc
    cases h1
    exact ⟨(kk _ h2).1, fun hle p l e R s m args below meth c H locs ls C hRp hSv hl => va_tb C.1 C.2.1 C.2.2.2.2.2.2.2.2.1.2.2.2.2.2.2.2.2.2.2.2.2.2.2.2.1.2 hSv hj.vp rfl hd ((kk _ h2).2 hle p l e R s m args below meth c H locs ls C hRp hSv hl)⟩
  · cases h1
theorem z_aaV {β : Type} {K : Nat → Option β} {w : β} {i : Int32} (hd : decode (zcc X) pc = .ok (.aaload, 1)) (hf : (ldV (zKa Γ) i).bind K = some w) (kk : ∀ x : Nat, K x = some w → Z Γ X d h0 o (pc + 1) lv (.ref x :: st) h) : Z Γ X d h0 o pc lv (.int i :: .ref (zVa Γ 102) :: st) h := by
  obtain ⟨x, h1, h2⟩ := Option.bind_eq_some_iff.mp hf
  unfold ldV at h1
  split at h1
  · next hc =>
    have hj : zix i 4 := hc
    cases h1
    refine ⟨(kk _ h2).1, fun hle p l e R s m args below meth c H locs ls C hRp hSv hl => ?_⟩
    obtain ⟨cell, g1, g2, g3, g4, g5, g6, g7⟩ := C.2.2.2.2.2.2.2.2.1.2.2.2.2.2.2.2.2.2.2.2.2.2.2.2.2.2
    have hP : H[zVa Γ 102]? = some cell := by rw [hSv.2.1 _ (Array.getElem?_eq_some_iff.mp g1).1 g7]; exact g1
    refine W.aald (v := .ref (zKa Γ (5 + i.toNatClampNeg))) C.1 C.2.1 hP g2 rfl g3 ?_ ?_ rfl rfl hd ((kk _ h2).2 hle p l e R s m args below meth c H locs ls C hRp hSv hl)
    · intro hh
      rcases hh with hh | hh
      · exact hj.1 hh
      · have := hj.2
        omega
    · exact g6 _ hj.2
  · cases h1

end ZROWS2

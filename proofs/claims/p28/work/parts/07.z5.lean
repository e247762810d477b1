def onO {β : Type} (c b : Nat) (h : zH) (F : Option β) : Option β := match hM h b with
  | some (.inr (c', _)) => if c' = c then F else none
  | _ => none
theorem onO_of {β : Type} {c b : Nat} {h : zH} {F : Option β} {w : β} (hf : onO c b h F = some w) : (∃ fs, hM h b = some (.inr (c, fs))) ∧ F = some w := by
  unfold onO at hf
  split at hf
  · next c' fs he =>
    split at hf
    · next hc => subst hc; exact ⟨⟨fs, he⟩, hf⟩
    · cases hf
  · cases hf
def zth {α β : Type} (r : α ⊕ Nat) (A : α → Option β) (B : Nat → Option β) : Option β := match r with
  | .inl x => A x
  | .inr k => B k
def znl {β : Type} (r : Option Nat) (A : Option β) (B : Nat → Option β) : Option β := match r with
  | none => A
  | some x => B x
def zjn {α β : Type} (J : α) (B : α → Option β) : Option β := B J
theorem zjn_elim {α β : Type} {J : α} {B : α → Option β} {w : β} {P : α → Prop} {G : Prop} (hf : zjn J B = some w) (hp : P J) (k : ∀ j : α, P j → B j = some w → G) : G := k J hp hf
def zoI (w : Int32 × zH) : zR × zH := (.inl (some (.int w.1)), w.2)
def zoJ (w : Int64 × zH) : zR × zH := (.inl (some (.long w.1)), w.2)
def zoA (w : Nat × zH) : zR × zH := (.inl (some (.ref w.1)), w.2)
def zoN (w : Option Nat × zH) : zR × zH := (.inl (some (va_rf w.1)), w.2)
def zoV (w : zH) : zR × zH := (.inl none, w)
def zoTI (w : (Int32 ⊕ Nat) × zH) : zR × zH := (match w.1 with | .inl x => .inl (some (.int x)) | .inr k => .inr k, w.2)
def zoTJ (w : (Int64 ⊕ Nat) × zH) : zR × zH := (match w.1 with | .inl x => .inl (some (.long x)) | .inr k => .inr k, w.2)
def zoTA (w : (Nat ⊕ Nat) × zH) : zR × zH := (match w.1 with | .inl x => .inl (some (.ref x)) | .inr k => .inr k, w.2)
theorem zB_of {x y : Int32} (h : zB x = some y) : (x = 0 ∨ x = 1) ∧ x = y := by
  unfold zB at h
  split at h
  · next hc => cases h; exact ⟨hc, rfl⟩
  · cases h
section ZWRAP
variable {Γ : zG} {X : zX} {d : Nat} {h0 : zH} {o : zR × zH} {pc : Nat} {lv : List (Nat × Value)} {st : List Value} {h : zH} {β : Type} {w : β}
theorem z_aload_nN {k : Fin 4} {i : Nat} (j : Nat) (hd : decode (zcc X) pc = .ok (.aload_n k, 1)) (hi : (k : Nat) = i) (hj : lv[j]? = some (i, .null)) (kk : Z Γ X d h0 o (pc + 1) lv (.null :: st) h) : Z Γ X d h0 o pc lv st h := Z.go (fun C hl w => lv_aload_nN C.1 C.2.1 hd hi (lv_at hl j hj) w) kk
theorem z_aloadN {i : Nat} (j : Nat) (hd : decode (zcc X) pc = .ok (.aload i, 2)) (hj : lv[j]? = some (i, .null)) (kk : Z Γ X d h0 o (pc + 2) lv (.null :: st) h) : Z Γ X d h0 o pc lv st h := Z.go (fun C hl w => lv_aloadN C.1 C.2.1 hd (lv_at hl j hj) w) kk
theorem z_astore_nN {k : Fin 4} {i : Nat} (lv' : List (Nat × Value)) (hd : decode (zcc X) pc = .ok (.astore_n k, 1)) (hi : (k : Nat) = i) (hn : i < zml X) (hv : (i, Value.null) :: lv.filter (fun q => !(q.1 == i) && !(q.1 + 1 == i && q.2.category == 2)) = lv') (kk : Z Γ X d h0 o (pc + 1) lv' st h) : Z Γ X d h0 o pc lv (.null :: st) h := Z.set (fun C hl w => lv_astore_nN C.1 C.2.1 hd hi hl hn hv w) kk
theorem z_astoreN {i : Nat} (lv' : List (Nat × Value)) (hd : decode (zcc X) pc = .ok (.astore i, 2)) (hn : i < zml X) (hv : (i, Value.null) :: lv.filter (fun q => !(q.1 == i) && !(q.1 + 1 == i && q.2.category == 2)) = lv') (kk : Z Γ X d h0 o (pc + 2) lv' st h) : Z Γ X d h0 o pc lv (.null :: st) h := Z.set (fun C hl w => lv_astoreN C.1 C.2.1 hd hl hn hv w) kk
theorem z_putB {K : zH → Option β} {index : Nat} {a c k : Nat} {N : Nat} {C O : String} {T : u_T} {ty : Nat → FieldType} {v : Value} (hd : decode (zcc X) pc = .ok (.putfield index, 3)) (hcl : zClsO c C O T N ty) (hk : k < N) (hlk : Cond.fieldLink X.1.cls index O (T k).2.1 (T k).2.2.1 ∈ GW) (hfin : (T k).2.2.2 = false ∨ ((T k).2.2.2 = true ∧ X.1.name = "<init>" ∧ X.1.cls = C ∧ O = C)) (hn : narrow (ty k) v = v) (hfit : fits (ty k) v = true) (hf : (pF h a c k v).bind K = some w) (kk : ∀ h1 : zH, K h1 = some w → Z Γ X d h0 o (pc + 3) lv st h1) : Z Γ X d h0 o pc lv (v :: .ref a :: st) h := by
  obtain ⟨h1, e1, e2⟩ := Option.bind_eq_some_iff.mp hf
  exact z_putV hd hcl hk hlk hfin hn hfit e1 (kk h1 e2)
def ldS (L : Nat) (xs : Nat → Int32) (i : Int32) : Option Int32 := if ¬ i < 0 ∧ i.toNatClampNeg < L then some (xs i.toNatClampNeg) else none
theorem z_sldB {K : Int32 → Option β} {i : Int32} {sb L : Nat} {xs : Nat → Int32} (hG : Γ.2.2.2.2 = (sb, L, xs)) (hd : decode (zcc X) pc = .ok (.iaload, 1)) (hf : (ldS L xs i).bind K = some w) (kk : ∀ x : Int32, K x = some w → Z Γ X d h0 o (pc + 1) lv (.int x :: st) h) : Z Γ X d h0 o pc lv (.int i :: .ref sb :: st) h := by
  obtain ⟨x, e1, e2⟩ := Option.bind_eq_some_iff.mp hf
  unfold ldS at e1
  split at e1
  · next hc => cases e1; exact z_sld hG hc hd (kk _ e2)
  · cases e1
theorem z_nwO {K : Nat × zH → Option β} {index c N : Nat} {C O : String} {T : u_T} {ty : Nat → FieldType} {fs : List Value} (hd : decode (zcc X) pc = .ok (.new index, 3)) (hcl : zClsO c C O T N ty) (hlk : Cond.classLink X.1.cls index C ∈ GW) (hin : Cond.instantiable C N ∈ GW) (hini : Cond.initialized C ∈ GW) (hlen : fs.length = N) (hfs : ∀ j, j < N → defaultValue (ty j) = vp_V fs j)
    (hf : (nwOb c fs h).bind K = some w) (kk : ∀ y : Nat × zH, K y = some w → Z Γ X d h0 o (pc + 3) lv (.ref y.1 :: st) y.2) : Z Γ X d h0 o pc lv st h := z_new hd hcl hlk hin hini hlen hfs hf fun q h1 e => kk (q, h1) e
theorem z_nwI {K : Nat × zH → Option β} {i : Int32} (hd : decode (zcc X) pc = .ok (.newarray .int, 2)) (hw : Cond.arrayClass .int ∈ GW) (hf : (nwI h i).bind K = some w) (kk : ∀ y : Nat × zH, K y = some w → Z Γ X d h0 o (pc + 2) lv (.ref y.1 :: st) y.2) : Z Γ X d h0 o pc lv (.int i :: st) h := z_newI hd hw hf fun q h1 e => kk (q, h1) e
theorem z_nwZ {K : Nat × zH → Option β} {i : Int32} (hd : decode (zcc X) pc = .ok (.newarray .byte, 2)) (hw : Cond.arrayClass .byte ∈ GW) (hf : (nwZ h i).bind K = some w) (kk : ∀ y : Nat × zH, K y = some w → Z Γ X d h0 o (pc + 2) lv (.ref y.1 :: st) y.2) : Z Γ X d h0 o pc lv (.int i :: st) h := z_newZ hd hw hf fun q h1 e => kk (q, h1) e
theorem z_nwJ {K : Nat × zH → Option β} {i : Int32} (hd : decode (zcc X) pc = .ok (.newarray .long, 2)) (hw : Cond.arrayClass .long ∈ GW) (hf : (nwJ h i).bind K = some w) (kk : ∀ y : Nat × zH, K y = some w → Z Γ X d h0 o (pc + 2) lv (.ref y.1 :: st) y.2) : Z Γ X d h0 o pc lv (.int i :: st) h := z_newJ hd hw hf fun q h1 e => kk (q, h1) e
theorem z_nwQ {K : Nat × zH → Option β} {index : Nat} (k : Nat) {i : Int32} {C : String} (hC : zaty k = .object C) (hd : decode (zcc X) pc = .ok (.anewarray index, 3)) (hlk : Cond.classLink X.1.cls index C ∈ GW) (hov : Cond.arrayOver (.object C) ∈ lw_tbl) (hf : (nwQ k h i).bind K = some w) (kk : ∀ y : Nat × zH, K y = some w → Z Γ X d h0 o (pc + 3) lv (.ref y.1 :: st) y.2) : Z Γ X d h0 o pc lv (.int i :: st) h := z_newQ k hC hd hlk hov hf fun q h1 e => kk (q, h1) e
theorem z_cV_i {index n b d' ci N : Nat} {T : u_T} {Y : zX} {F : Option (Int32 × zH)} {K : Int32 × zH → Option β} {As rest : List Value} (hd : decode (zcc X) pc = .ok (.invokevirtual index, 3)) (hL : zLV X.1.cls index Y n) (hci : vwCl[ci]? = some (Y.1.cls, T, N)) (hf : (onO ci b h F).bind K = some w) (hMt : ∀ w1 : Int32 × zH, F = some w1 → Zm Γ Y d' (.ref b :: As) h (zoI w1)) (hdd : d' + 1 ≤ d) (hn : As.length = n) (hst0 : st = As.reverse ++ .ref b :: rest) (hst : (rest.map fun v => v.category).sum ≤ 8) (kk : ∀ y : Int32 × zH, K y = some w → Z Γ X d h0 o (pc + 3) lv (.int y.1 :: rest) y.2) : Z Γ X d h0 o pc lv st h := by
  obtain ⟨y, e1, e2⟩ := Option.bind_eq_some_iff.mp hf
  obtain ⟨⟨fs, hb⟩, e1⟩ := onO_of e1
  exact z_callV hd hL hci hb (hMt y e1) hdd hn hst0 hst (fun v hv => by cases hv; exact kk y e2) (fun k hk => by cases hk)
theorem z_cV_j {index n b d' ci N : Nat} {T : u_T} {Y : zX} {F : Option (Int64 × zH)} {K : Int64 × zH → Option β} {As rest : List Value} (hd : decode (zcc X) pc = .ok (.invokevirtual index, 3)) (hL : zLV X.1.cls index Y n) (hci : vwCl[ci]? = some (Y.1.cls, T, N)) (hf : (onO ci b h F).bind K = some w) (hMt : ∀ w1 : Int64 × zH, F = some w1 → Zm Γ Y d' (.ref b :: As) h (zoJ w1)) (hdd : d' + 1 ≤ d) (hn : As.length = n) (hst0 : st = As.reverse ++ .ref b :: rest) (hst : (rest.map fun v => v.category).sum ≤ 8) (kk : ∀ y : Int64 × zH, K y = some w → Z Γ X d h0 o (pc + 3) lv (.long y.1 :: rest) y.2) : Z Γ X d h0 o pc lv st h := by
  obtain ⟨y, e1, e2⟩ := Option.bind_eq_some_iff.mp hf
  obtain ⟨⟨fs, hb⟩, e1⟩ := onO_of e1
  exact z_callV hd hL hci hb (hMt y e1) hdd hn hst0 hst (fun v hv => by cases hv; exact kk y e2) (fun k hk => by cases hk)
theorem z_cV_a {index n b d' ci N : Nat} {T : u_T} {Y : zX} {F : Option (Nat × zH)} {K : Nat × zH → Option β} {As rest : List Value} (hd : decode (zcc X) pc = .ok (.invokevirtual index, 3)) (hL : zLV X.1.cls index Y n) (hci : vwCl[ci]? = some (Y.1.cls, T, N)) (hf : (onO ci b h F).bind K = some w) (hMt : ∀ w1 : Nat × zH, F = some w1 → Zm Γ Y d' (.ref b :: As) h (zoA w1)) (hdd : d' + 1 ≤ d) (hn : As.length = n) (hst0 : st = As.reverse ++ .ref b :: rest) (hst : (rest.map fun v => v.category).sum ≤ 8) (kk : ∀ y : Nat × zH, K y = some w → Z Γ X d h0 o (pc + 3) lv (.ref y.1 :: rest) y.2) : Z Γ X d h0 o pc lv st h := by
  obtain ⟨y, e1, e2⟩ := Option.bind_eq_some_iff.mp hf
  obtain ⟨⟨fs, hb⟩, e1⟩ := onO_of e1
  exact z_callV hd hL hci hb (hMt y e1) hdd hn hst0 hst (fun v hv => by cases hv; exact kk y e2) (fun k hk => by cases hk)
theorem z_cV_v {index n b d' ci N : Nat} {T : u_T} {Y : zX} {F : Option (zH)} {K : zH → Option β} {As rest : List Value} (hd : decode (zcc X) pc = .ok (.invokevirtual index, 3)) (hL : zLV X.1.cls index Y n) (hci : vwCl[ci]? = some (Y.1.cls, T, N)) (hf : (onO ci b h F).bind K = some w) (hMt : ∀ w1 : zH, F = some w1 → Zm Γ Y d' (.ref b :: As) h (zoV w1)) (hdd : d' + 1 ≤ d) (hn : As.length = n) (hst0 : st = As.reverse ++ .ref b :: rest) (hst : (rest.map fun v => v.category).sum ≤ 8) (kk : ∀ y : zH, K y = some w → Z Γ X d h0 o (pc + 3) lv (rest) y) : Z Γ X d h0 o pc lv st h := by
  obtain ⟨y, e1, e2⟩ := Option.bind_eq_some_iff.mp hf
  obtain ⟨⟨fs, hb⟩, e1⟩ := onO_of e1
  exact z_callV hd hL hci hb (hMt y e1) hdd hn hst0 hst (fun v hv => by cases hv; exact kk y e2) (fun k hk => by cases hk)
theorem z_cV_n {index n b d' ci N : Nat} {T : u_T} {Y : zX} {F : Option (Option Nat × zH)} {A : Option Nat × zH → Option β} {B : Option Nat × zH → Nat → Option β} {As rest : List Value} (hd : decode (zcc X) pc = .ok (.invokevirtual index, 3)) (hL : zLV X.1.cls index Y n) (hci : vwCl[ci]? = some (Y.1.cls, T, N)) (hf : (onO ci b h F).bind (fun y => znl y.1 (A y) (B y)) = some w) (hMt : ∀ w1 : Option Nat × zH, F = some w1 → Zm Γ Y d' (.ref b :: As) h (zoN w1)) (hdd : d' + 1 ≤ d) (hn : As.length = n) (hst0 : st = As.reverse ++ .ref b :: rest) (hst : (rest.map fun v => v.category).sum ≤ 8) (kn : ∀ y : Option Nat × zH, A y = some w → Z Γ X d h0 o (pc + 3) lv (.null :: rest) y.2) (kk : ∀ (y : Option Nat × zH) (x : Nat), B y x = some w → Z Γ X d h0 o (pc + 3) lv (.ref x :: rest) y.2) : Z Γ X d h0 o pc lv st h := by
  obtain ⟨y, e1, e2⟩ := Option.bind_eq_some_iff.mp hf
  obtain ⟨⟨fs, hb⟩, e1⟩ := onO_of e1
  obtain ⟨r, h1⟩ := y
  cases r with
  | none => exact z_callV hd hL hci hb (hMt _ e1) hdd hn hst0 hst (fun v hv => by cases hv; exact kn _ e2) (fun k hk => by cases hk)
  | some x => exact z_callV hd hL hci hb (hMt _ e1) hdd hn hst0 hst (fun v hv => by cases hv; exact kk _ x e2) (fun k hk => by cases hk)
theorem z_cV_ti {index n b d' ci N : Nat} {T : u_T} {Y : zX} {F : Option ((Int32 ⊕ Nat) × zH)} {A : (Int32 ⊕ Nat) × zH → Int32 → Option β} {B : (Int32 ⊕ Nat) × zH → Nat → Option β} {As rest : List Value} (hd : decode (zcc X) pc = .ok (.invokevirtual index, 3)) (hL : zLV X.1.cls index Y n) (hci : vwCl[ci]? = some (Y.1.cls, T, N)) (hf : (onO ci b h F).bind (fun y => zth y.1 (A y) (B y)) = some w) (hMt : ∀ w1 : (Int32 ⊕ Nat) × zH, F = some w1 → Zm Γ Y d' (.ref b :: As) h (zoTI w1)) (hdd : d' + 1 ≤ d) (hn : As.length = n) (hst0 : st = As.reverse ++ .ref b :: rest) (hst : (rest.map fun v => v.category).sum ≤ 8) (kk : ∀ (y : (Int32 ⊕ Nat) × zH) (x : Int32), A y x = some w → Z Γ X d h0 o (pc + 3) lv (.int x :: rest) y.2) (kx : ∀ (y : (Int32 ⊕ Nat) × zH) (k : Nat), B y k = some w → Zx Γ X d h0 o pc lv rest k y.2) : Z Γ X d h0 o pc lv st h := by
  obtain ⟨y, e1, e2⟩ := Option.bind_eq_some_iff.mp hf
  obtain ⟨⟨fs, hb⟩, e1⟩ := onO_of e1
  obtain ⟨r, h1⟩ := y
  cases r with
  | inl x => exact z_callV hd hL hci hb (hMt _ e1) hdd hn hst0 hst (fun v hv => by cases hv; exact kk _ x e2) (fun k hk => by cases hk)
  | inr k9 => exact z_callV hd hL hci hb (hMt _ e1) hdd hn hst0 hst (fun v hv => by cases hv) (fun k hk => by cases hk; exact kx _ _ e2)
theorem z_cV_tj {index n b d' ci N : Nat} {T : u_T} {Y : zX} {F : Option ((Int64 ⊕ Nat) × zH)} {A : (Int64 ⊕ Nat) × zH → Int64 → Option β} {B : (Int64 ⊕ Nat) × zH → Nat → Option β} {As rest : List Value} (hd : decode (zcc X) pc = .ok (.invokevirtual index, 3)) (hL : zLV X.1.cls index Y n) (hci : vwCl[ci]? = some (Y.1.cls, T, N)) (hf : (onO ci b h F).bind (fun y => zth y.1 (A y) (B y)) = some w) (hMt : ∀ w1 : (Int64 ⊕ Nat) × zH, F = some w1 → Zm Γ Y d' (.ref b :: As) h (zoTJ w1)) (hdd : d' + 1 ≤ d) (hn : As.length = n) (hst0 : st = As.reverse ++ .ref b :: rest) (hst : (rest.map fun v => v.category).sum ≤ 8) (kk : ∀ (y : (Int64 ⊕ Nat) × zH) (x : Int64), A y x = some w → Z Γ X d h0 o (pc + 3) lv (.long x :: rest) y.2) (kx : ∀ (y : (Int64 ⊕ Nat) × zH) (k : Nat), B y k = some w → Zx Γ X d h0 o pc lv rest k y.2) : Z Γ X d h0 o pc lv st h := by
  obtain ⟨y, e1, e2⟩ := Option.bind_eq_some_iff.mp hf
  obtain ⟨⟨fs, hb⟩, e1⟩ := onO_of e1
  obtain ⟨r, h1⟩ := y
  cases r with
  | inl x => exact z_callV hd hL hci hb (hMt _ e1) hdd hn hst0 hst (fun v hv => by cases hv; exact kk _ x e2) (fun k hk => by cases hk)
  | inr k9 => exact z_callV hd hL hci hb (hMt _ e1) hdd hn hst0 hst (fun v hv => by cases hv) (fun k hk => by cases hk; exact kx _ _ e2)
theorem z_cV_ta {index n b d' ci N : Nat} {T : u_T} {Y : zX} {F : Option ((Nat ⊕ Nat) × zH)} {A : (Nat ⊕ Nat) × zH → Nat → Option β} {B : (Nat ⊕ Nat) × zH → Nat → Option β} {As rest : List Value} (hd : decode (zcc X) pc = .ok (.invokevirtual index, 3)) (hL : zLV X.1.cls index Y n) (hci : vwCl[ci]? = some (Y.1.cls, T, N)) (hf : (onO ci b h F).bind (fun y => zth y.1 (A y) (B y)) = some w) (hMt : ∀ w1 : (Nat ⊕ Nat) × zH, F = some w1 → Zm Γ Y d' (.ref b :: As) h (zoTA w1)) (hdd : d' + 1 ≤ d) (hn : As.length = n) (hst0 : st = As.reverse ++ .ref b :: rest) (hst : (rest.map fun v => v.category).sum ≤ 8) (kk : ∀ (y : (Nat ⊕ Nat) × zH) (x : Nat), A y x = some w → Z Γ X d h0 o (pc + 3) lv (.ref x :: rest) y.2) (kx : ∀ (y : (Nat ⊕ Nat) × zH) (k : Nat), B y k = some w → Zx Γ X d h0 o pc lv rest k y.2) : Z Γ X d h0 o pc lv st h := by
  obtain ⟨y, e1, e2⟩ := Option.bind_eq_some_iff.mp hf
  obtain ⟨⟨fs, hb⟩, e1⟩ := onO_of e1
  obtain ⟨r, h1⟩ := y
  cases r with
  | inl x => exact z_callV hd hL hci hb (hMt _ e1) hdd hn hst0 hst (fun v hv => by cases hv; exact kk _ x e2) (fun k hk => by cases hk)
  | inr k9 => exact z_callV hd hL hci hb (hMt _ e1) hdd hn hst0 hst (fun v hv => by cases hv) (fun k hk => by cases hk; exact kx _ _ e2)
theorem z_cS_i {index n d' : Nat} {Y : zX} {F : Option (Int32 × zH)} {K : Int32 × zH → Option β} {As rest : List Value} (hd : decode (zcc X) pc = .ok (.invokestatic index, 3)) (hL : zLS X.1.cls index Y n) (hf : F.bind K = some w) (hMt : ∀ w1 : Int32 × zH, F = some w1 → Zm Γ Y d' As h (zoI w1)) (hdd : d' + 1 ≤ d) (hn : As.length = n) (hst0 : st = As.reverse ++ rest) (hst : (rest.map fun v => v.category).sum ≤ 8) (kk : ∀ y : Int32 × zH, K y = some w → Z Γ X d h0 o (pc + 3) lv (.int y.1 :: rest) y.2) : Z Γ X d h0 o pc lv st h := by
  obtain ⟨y, e1, e2⟩ := Option.bind_eq_some_iff.mp hf
  exact z_callS hd hL (hMt y e1) hdd hn hst0 hst (fun v hv => by cases hv; exact kk y e2) (fun k hk => by cases hk)
theorem z_cS_j {index n d' : Nat} {Y : zX} {F : Option (Int64 × zH)} {K : Int64 × zH → Option β} {As rest : List Value} (hd : decode (zcc X) pc = .ok (.invokestatic index, 3)) (hL : zLS X.1.cls index Y n) (hf : F.bind K = some w) (hMt : ∀ w1 : Int64 × zH, F = some w1 → Zm Γ Y d' As h (zoJ w1)) (hdd : d' + 1 ≤ d) (hn : As.length = n) (hst0 : st = As.reverse ++ rest) (hst : (rest.map fun v => v.category).sum ≤ 8) (kk : ∀ y : Int64 × zH, K y = some w → Z Γ X d h0 o (pc + 3) lv (.long y.1 :: rest) y.2) : Z Γ X d h0 o pc lv st h := by
  obtain ⟨y, e1, e2⟩ := Option.bind_eq_some_iff.mp hf
  exact z_callS hd hL (hMt y e1) hdd hn hst0 hst (fun v hv => by cases hv; exact kk y e2) (fun k hk => by cases hk)
theorem z_cS_a {index n d' : Nat} {Y : zX} {F : Option (Nat × zH)} {K : Nat × zH → Option β} {As rest : List Value} (hd : decode (zcc X) pc = .ok (.invokestatic index, 3)) (hL : zLS X.1.cls index Y n) (hf : F.bind K = some w) (hMt : ∀ w1 : Nat × zH, F = some w1 → Zm Γ Y d' As h (zoA w1)) (hdd : d' + 1 ≤ d) (hn : As.length = n) (hst0 : st = As.reverse ++ rest) (hst : (rest.map fun v => v.category).sum ≤ 8) (kk : ∀ y : Nat × zH, K y = some w → Z Γ X d h0 o (pc + 3) lv (.ref y.1 :: rest) y.2) : Z Γ X d h0 o pc lv st h := by
  obtain ⟨y, e1, e2⟩ := Option.bind_eq_some_iff.mp hf
  exact z_callS hd hL (hMt y e1) hdd hn hst0 hst (fun v hv => by cases hv; exact kk y e2) (fun k hk => by cases hk)
theorem z_cS_v {index n d' : Nat} {Y : zX} {F : Option (zH)} {K : zH → Option β} {As rest : List Value} (hd : decode (zcc X) pc = .ok (.invokestatic index, 3)) (hL : zLS X.1.cls index Y n) (hf : F.bind K = some w) (hMt : ∀ w1 : zH, F = some w1 → Zm Γ Y d' As h (zoV w1)) (hdd : d' + 1 ≤ d) (hn : As.length = n) (hst0 : st = As.reverse ++ rest) (hst : (rest.map fun v => v.category).sum ≤ 8) (kk : ∀ y : zH, K y = some w → Z Γ X d h0 o (pc + 3) lv (rest) y) : Z Γ X d h0 o pc lv st h := by
  obtain ⟨y, e1, e2⟩ := Option.bind_eq_some_iff.mp hf
  exact z_callS hd hL (hMt y e1) hdd hn hst0 hst (fun v hv => by cases hv; exact kk y e2) (fun k hk => by cases hk)
theorem z_cW_i {index n d' : Nat} {Y : zX} {F : Option (Int32 × zH)} {K : Int32 × zH → Option β} {As rest : List Value} (hd : decode (zcc X) pc = .ok (.invokestatic index, 3)) (hL : zLSW X.1.cls index Y n) (hf : F.bind K = some w) (hMt : ∀ w1 : Int32 × zH, F = some w1 → Zm Γ Y d' As h (zoI w1)) (hdd : d' + 1 ≤ d) (hn : As.length = n) (hst0 : st = As.reverse ++ rest) (hst : (rest.map fun v => v.category).sum ≤ 8) (kk : ∀ y : Int32 × zH, K y = some w → Z Γ X d h0 o (pc + 3) lv (.int y.1 :: rest) y.2) : Z Γ X d h0 o pc lv st h := by
  obtain ⟨y, e1, e2⟩ := Option.bind_eq_some_iff.mp hf
  exact z_callSW hd hL (hMt y e1) hdd hn hst0 hst (fun v hv => by cases hv; exact kk y e2) (fun k hk => by cases hk)
theorem z_cI_v {index n b d' : Nat} {Y : zX} {F : Option (zH)} {K : zH → Option β} {As rest : List Value} (hd : decode (zcc X) pc = .ok (.invokespecial index, 3)) (hL : zLI X.1.cls index Y n) (hf : F.bind K = some w) (hMt : ∀ w1 : zH, F = some w1 → Zm Γ Y d' (.ref b :: As) h (zoV w1)) (hdd : d' + 1 ≤ d) (hn : As.length = n) (hst0 : st = As.reverse ++ .ref b :: rest) (hst : (rest.map fun v => v.category).sum ≤ 8) (kk : ∀ y : zH, K y = some w → Z Γ X d h0 o (pc + 3) lv (rest) y) : Z Γ X d h0 o pc lv st h := by
  obtain ⟨y, e1, e2⟩ := Option.bind_eq_some_iff.mp hf
  exact z_callI hd hL (hMt y e1) hdd hn hst0 hst (kk y e2)
end ZWRAP

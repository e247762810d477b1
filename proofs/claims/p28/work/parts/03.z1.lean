/-! ===== z: one closed world. All that the law and the class made lies from B0 on; an abstract heap says what every such cell holds. ===== -/
/-- what a cell holds: an array (its kind, its length and contents) or an object (its class, its fields) -/
abbrev zE : Type := (Nat × vp_A) ⊕ (Nat × List Value)
/-- the abstract heap: its size, the slots used, the cells -/
abbrev zH : Type := Nat × Nat × (Nat → Option zE)
/-- what stays: the tables' classes, the array classes, the first address, the constants' addresses, the script -/
abbrev zG : Type := va_G × (Nat → ClassId) × Nat × ((Nat → Nat) × (Nat → Nat)) × (Nat × Nat × (Nat → Int32))
/-- a method: its name, code, locals, result, handlers -/
abbrev zX : Type := MethodName × ByteArray × Nat × Option FieldType × List (Nat × Nat × Nat × Nat)
/-- how it ended: what it returned, or the number of what it threw -/
abbrev zR : Type := Option Value ⊕ Nat
def hS (h : zH) : Nat := h.1
def hN (h : zH) : Nat := h.2.1
def hM (h : zH) (a : Nat) : Option zE := h.2.2 a
def hPut (h : zH) (a : Nat) (e : zE) : zH := (h.1, h.2.1, fun b => if b = a then some e else h.2.2 b)
def hNew (h : zH) (e : zE) (n : Nat) : zH := (h.1 + 1, h.2.1 + n, fun b => if b = h.1 then some e else h.2.2 b)
def hJunk (h : zH) (n : Nat) : zH := (h.1 + 1, h.2.1 + n, h.2.2)
def zle (h h' : zH) : Prop := hS h ≤ hS h' ∧ hN h ≤ hN h'
theorem zle.rf {h : zH} : zle h h := ⟨Nat.le_refl _, Nat.le_refl _⟩
theorem zle.tr {a b c : zH} (h1 : zle a b) (h2 : zle b c) : zle a c := ⟨Nat.le_trans h1.1 h2.1, Nat.le_trans h1.2 h2.2⟩
def zcc (X : zX) : ByteArray := X.2.1
def zml (X : zX) : Nat := X.2.2.1
def zrt (X : zX) : Option FieldType := X.2.2.2.1
def zhh (X : zX) : List (Nat × Nat × Nat × Nat) := X.2.2.2.2
def zB0 (Γ : zG) : Nat := Γ.2.2.1
def zKa (Γ : zG) : Nat → Nat := Γ.2.2.2.1.1
def zVa (Γ : zG) : Nat → Nat := Γ.2.2.2.1.2
def zA (Γ : zG) : Nat → Prop := fun q => zB0 Γ ≤ q
def zexn : Nat → String := fun k => match k with
  | 0 => "java/lang/IllegalStateException"
  | 1 => "java/lang/IllegalArgumentException"
  | 2 => "java/lang/IndexOutOfBoundsException"
  | _ => "java/util/NoSuchElementException"
def zaty : Nat → FieldType := fun k => match k with
  | 0 => .int
  | 1 => .long
  | 2 => .byte
  | 3 => .object RX1
  | 4 => .object RX0
  | 5 => .object RX9
  | 6 => .array (.object RX9)
  | _ => .object RX12
def ztys (dA : Nat → ClassId) : List (ClassId × FieldType) := [(dA 0, zaty 0), (dA 1, zaty 1), (dA 2, zaty 2), (dA 3, zaty 3), (dA 4, zaty 4), (dA 5, zaty 5), (dA 6, zaty 6), (dA 7, zaty 7)]
theorem ztys_at (dA : Nat → ClassId) {k : Nat} (hk : k < 8) : (ztys dA)[k]? = some (dA k, zaty k) := by
  match k, hk with
  | 0, _ => rfl
  | 1, _ => rfl
  | 2, _ => rfl
  | 3, _ => rfl
  | 4, _ => rfl
  | 5, _ => rfl
  | 6, _ => rfl
  | 7, _ => rfl
def ztoE (dA : Nat → ClassId) : zE → va_E := fun e => match e with
  | .inl a => .inl (dA a.1, a.2)
  | .inr o => .inr o
/-- not a String constant -/
def zRl (e : zE) : Prop := ∀ fs, e ≠ .inr (15, fs)
theorem zRl_l {x : Nat × vp_A} : zRl (.inl x) := fun fs h => by cases h
theorem zRl_o {c : Nat} {fs : List Value} (hc : c ≠ 15) : zRl (.inr (c, fs)) := fun fs2 h => by
  have := Sum.inr.inj h
  exact hc (congrArg Prod.fst this)
/-- the abstract heap says what lies in the machine's -/
def zRp (Γ : zG) (h : zH) (H : Heap) : Prop := H.size = hS h ∧ zB0 Γ ≤ hS h ∧ ∀ (a : Nat) (e : zE), hM h a = some e → (zRl e → zB0 Γ ≤ a ∧ va_at Γ.1 vwCl (a, ztoE Γ.2.1 e) H) ∧ (¬ zRl e → ∃ i, i < 20 ∧ a = zKa Γ i ∧ e = .inr (15, [.int (Int32.ofNat i)]))
theorem zRp.l {Γ : zG} {h : zH} {H : Heap} {a : Nat} {x : Nat × vp_A} (hR : zRp Γ h H) (he : hM h a = some (.inl x)) : zB0 Γ ≤ a ∧ va_at Γ.1 vwCl (a, ztoE Γ.2.1 (.inl x)) H := (hR.2.2 a _ he).1 zRl_l
theorem vw_15 {c : Nat} {q : vw_C} (hc : vwCl[c]? = some q) : c ≠ 15 := fun h => by subst h; cases hc
theorem zRp.o {Γ : zG} {h : zH} {H : Heap} {a c : Nat} {fs : List Value} {q : vw_C} (hR : zRp Γ h H) (he : hM h a = some (.inr (c, fs))) (hc : vwCl[c]? = some q) : zB0 Γ ≤ a ∧ va_at Γ.1 vwCl (a, ztoE Γ.2.1 (.inr (c, fs))) H := (hR.2.2 a _ he).1 (zRl_o (vw_15 hc))
-- the texts of the constants
def ztxt : Nat → String := fun k => match k with
  | 0 => "group"
  | 1 => "player"
  | 2 => "card"
  | 3 => "lot"
  | 4 => "price"
  | 5 => "base"
  | 6 => "order"
  | 7 => "bids"
  | 8 => "pot"
  | 9 => "price "
  | 10 => " ;"
  | 11 => " "
  | 12 => ";"
  | 13 => ""
  | 14 => "+"
  | 15 => " - "
  | 16 => "* "
  | 17 => "/"
  | 18 => "("
  | _ => ")"
def zsi7 : Nat → Nat := fun k => [127, 138, 143, 148, 153, 214, 216, 218, 220].getD k 0
def zsiL : Nat → Nat := fun k => [149, 169, 181, 195, 206, 212, 135, 140].getD k 0
def zciL : Nat → Nat := fun k => [0, 1, 2, 3, 9, 10, 11, 12].getD k 0
def zsiN : Nat → Nat := fun k => [37, 60, 62, 64, 66, 68, 70].getD k 0
def zciN : Nat → Nat := fun k => 13 + k
def zlen : List Nat := [5, 6, 4, 3, 5, 4, 5, 4, 3, 6, 2, 1, 1, 0, 1, 3, 2, 1, 1, 1]
def zbyt : List (List Int32) := [[103, 114, 111, 117, 112], [112, 108, 97, 121, 101, 114], [99, 97, 114, 100], [108, 111, 116], [112, 114, 105, 99, 101], [98, 97, 115, 101], [111, 114, 100, 101, 114], [98, 105, 100, 115], [112, 111, 116], [112, 114, 105, 99, 101, 32], [32, 59], [32], [59], [], [43], [32, 45, 32], [42, 32], [47], [40], [41]]
/-- words of the tables that a call doesn't carry by itself -/
def zxw : Cond → Bool := fun w => match w with
  | .castable _ _ => true
  | .declares _ => true
  | .arrayOver _ => true
  | .methodLinkNest _ _ _ _ => true
  | .fieldLinkNest _ _ _ _ _ _ => true
  | .privateMethod _ => true
  | _ => false
theorem zxw_warm {w : Cond} {s U : State} (hw : zxw w = true) (hW : s.WarmedH U.vm) (h : w.before #[] s = true) : w.before #[] U = true := by
  cases w with
  | castable a b => exact va_tabs rfl (rfl : (s.setVm U.vm).vm = U.vm) (by rw [Cond.castable_setVm hW.alike]; exact h)
  | declares x => exact va_Nw.warmD hW h
  | arrayOver t =>
    have e := Cond.arrayOver_setVmC (args := #[]) hW.alike t
    rw [h] at e
    exact e
  | methodLinkNest a i x y => exact va_Nw.warmM hW h
  | fieldLinkNest a i b n d y => exact va_Nw.warmF hW h
  | privateMethod y => exact va_tabs rfl (rfl : (s.setVm U.vm).vm = U.vm) (by rw [Cond.privateMethod_setVm hW.alike]; exact h)
  | _ => cases hw
/-- old cells that are read: constants, statics, the script -/
def zSt (Γ : zG) (U : State) : Prop :=
  vk_S 20 zlen zbyt (zKa Γ) (zVa Γ) (zA Γ) U U.heap ∧ (∀ i : Nat, i < 9 → vk_R RX7 (zsi7 i) (ztxt i) (zKa Γ i) U) ∧
  va_Z "java/lang/String" "COMPACT_STRINGS" "Z" (.int 1) (zA Γ) U U.heap ∧ va_Zq "jdk/internal/util/Preconditions" "SIOOBE_FORMATTER" "Ljava/util/function/BiFunction;" (zA Γ) U U.heap ∧
  va_X Γ.2.2.2.2.1 Γ.2.2.2.2.2.1 Γ.2.2.2.2.2.2 U U.heap ∧ Γ.2.2.2.2.1 < zB0 Γ ∧
  (∀ w ∈ lw_tbl, zxw w = true → w.before #[] U = true) ∧ (∀ i j : Nat, i < 4 → j < 4 → i ≠ j → va_Nc (zexn i) (zexn j) U) ∧
  (∀ j : Nat, j < 8 → vk_R RL (zsiL j) (ztxt (zciL j)) (zKa Γ (zciL j)) U) ∧ (∀ j : Nat, j < 7 → vk_R RX10 (zsiN j) (ztxt (zciN j)) (zKa Γ (zciN j)) U) ∧
  (va_Z "java/lang/Integer" "DigitOnes" "[B" (.ref (zVa Γ 100)) (zA Γ) U U.heap ∧ va_T .byte (zVa Γ 100) 100 (fun j => .int (Int32.ofNat (48 + j % 10))) (zA Γ) U U.heap) ∧
  (va_Z "java/lang/Integer" "DigitTens" "[B" (.ref (zVa Γ 101)) (zA Γ) U U.heap ∧ va_T .byte (zVa Γ 101) 100 (fun j => .int (Int32.ofNat (48 + j / 10))) (zA Γ) U U.heap) ∧
  (va_Z RL "VARIABLES" "[Ljava/lang/String;" (.ref (zVa Γ 102)) (zA Γ) U U.heap ∧ va_T (.object "java/lang/String") (zVa Γ 102) 4 (fun j => .ref (zKa Γ (5 + j))) (zA Γ) U U.heap)
def zKK (Γ : zG) (U : State) : Prop := va_K Γ.1 vwCl (ztys Γ.2.1) U ∧ zB0 Γ ≤ U.heap.size ∧ vx_Zq Bundle.tN "UNASSIGNED_STACK" Bundle.steD (zA Γ) U U.heap ∧ vx_Zq Bundle.tN "SUPPRESSED_SENTINEL" Bundle.listD (zA Γ) U U.heap ∧ zSt Γ U
/-- the words that go on through calls -/
def GW : List Cond := lw_tbl.filter goodWord
theorem gw_in {w : Cond} (i : Nat) (h : lw_tbl[i]? = some w) (hg : goodWord w = true) : w ∈ GW := List.mem_filter.mpr ⟨List.mem_of_getElem? h, hg⟩
theorem gw_good {w : Cond} (h : w ∈ GW) : goodWord w = true := (List.mem_filter.mp h).2
theorem va_Z.fresh {C n d : String} {v : Value} {A : Nat → Prop} {u U : State} {H H1 : Heap} (hvm : u.vm.Alike U.vm) (h : va_Z C n d v A u H) (hq : ∀ a : Nat, a < H.size → ¬ A a → H1[a]? = H[a]?) : va_Z C n d v A U H1 := by
  have h1 := va_Z.moved hvm h
  exact va_Z.kept h1 hq
/-- the same facts, seen from a later state of the same launch -/
theorem zKK.warm {Γ : zG} {s U : State} (hW : s.WarmedH U.vm) (hsz : s.heap.size ≤ U.heap.size) (hk : ∀ q : Nat, q < s.heap.size → ¬ zA Γ q → U.heap[q]? = s.heap[q]?) (h : zKK Γ s) : zKK Γ U := by
  obtain ⟨h1, h2, h3, h4, ⟨h5, h6, h7, h8, h9, h10, h11, h12, h13, h14, ⟨h15, h16⟩, ⟨h17, h18⟩, ⟨h19, h20⟩⟩⟩ := h
  have hvm := hW.alike
  have hb : Γ.2.2.2.2.1 < s.heap.size := Nat.lt_of_lt_of_le h10 h2
  exact ⟨va_K.moved hvm h1, Nat.le_trans h2 hsz, (h3.kept hk).moved hvm, (h4.kept hk).moved hvm, ⟨vk_S.moved hvm (vk_S.kept h5 hk), fun i hi => (h6 i hi).warm hW, va_Z.moved hvm (va_Z.kept h7 hk), va_Zq.moved hvm (va_Zq.kept h8 hk), va_X.moved hvm (va_X.kept h9 (hk _ hb (Nat.not_le.mpr h10))), h10, fun w hw hz => zxw_warm hz hW (h11 w hw hz), fun i j hi hj hne => va_Nc.moved hvm (h12 i j hi hj hne), fun i hi => (h13 i hi).warm hW, fun i hi => (h14 i hi).warm hW, ⟨va_Z.moved hvm (va_Z.kept h15 hk), va_T.moved hvm (va_T.kept h16 hk)⟩, ⟨va_Z.moved hvm (va_Z.kept h17 hk), va_T.moved hvm (va_T.kept h18 hk)⟩, ⟨va_Z.moved hvm (va_Z.kept h19 hk), va_T.moved hvm (va_T.kept h20 hk)⟩⟩⟩
/-- what a method's body knows of the machine it runs on -/
def zC (Γ : zG) (X : zX) (d : Nat) (h0 hF : zH) (p : Program) (l : Launch) (R : Room) (s : State) (m : MethodId) (args : Array Value) (meth : Method) (c : Code) : Prop :=
  p.tables.exec = Jvm.exec ∧ c.code = zcc X ∧ meth.sig.returnType = zrt X ∧ c.maxLocals = zml X ∧ s.vm.findClass X.1.cls = some m.cls ∧ (X.1.name = "<init>" → meth.name = "<init>") ∧ (∀ w ∈ GW, w.before args s = true) ∧ meth.locks = false ∧ zKK Γ s ∧ l.stackTraces = false ∧
  d ≤ R.frames ∧ 40 * d ≤ R.locals ∧ hS hF - hS h0 ≤ R.cells ∧ hN hF - hN h0 ≤ R.slots ∧ zRp Γ h0 s.heap ∧ c.exceptionTable.toList = tableOf (zhh X) ∧ zle h0 hF
/-- what holds where a method has returned -/
def zQ (Γ : zG) (o : zR × zH) : Array Value → State → Outcome → State → Prop := fun _ st oc t => (∃ v : Option Value, o.1 = .inl v ∧ oc = .returned v) ∧ zRp Γ o.2 t.heap ∧ va_F (zA Γ) st t
/-- .. or thrown -/
def zXC (Γ : zG) (o : zR × zH) : String → State → State → Prop := fun E st t => (∃ k : Nat, o.1 = .inr k ∧ E = zexn k) ∧ zRp Γ o.2 t.heap ∧ va_F (zA Γ) st t
/-- from here the method comes to the end o -/
def Z (Γ : zG) (X : zX) (d : Nat) (h0 : zH) (o : zR × zH) (pc : Nat) (lv : List (Nat × Value)) (st : List Value) (h : zH) : Prop :=
  zle h o.2 ∧ (zle h0 h → ∀ (p : Program) (l : Launch) (e : Env) (R : Room) (s : State) (m : MethodId) (args : Array Value) (below : List Frame) (meth : Method) (c : Code) (H : Heap) (locs : List Loc) (ls : Array Slot),
    zC Γ X d h0 o.2 p l R s m args meth c → zRp Γ h H → va_S (zA Γ) s.heap H locs → lv_has ls (zml X) lv →
    W p l e R s m args below meth c H locs (hS h - hS h0) (hN h - hN h0) (vx_MQ below (zQ Γ o) (zXC Γ o) args s (hS o.2 - hS h0) (hN o.2 - hN h0) (zA Γ)) (F0 m pc ls st))
/-- .. with what was thrown, of class number k, over the frame -/
def Zx (Γ : zG) (X : zX) (d : Nat) (h0 : zH) (o : zR × zH) (pc : Nat) (lv : List (Nat × Value)) (st : List Value) (k : Nat) (h : zH) : Prop :=
  zle h o.2 ∧ (zle h0 h → ∀ (p : Program) (l : Launch) (e : Env) (R : Room) (s : State) (m : MethodId) (args : Array Value) (below : List Frame) (meth : Method) (c : Code) (H : Heap) (locs : List Loc) (ls : Array Slot) (q : Addr) (ce : Cell),
    zC Γ X d h0 o.2 p l R s m args meth c → zRp Γ h H → va_S (zA Γ) s.heap H locs → lv_has ls (zml X) lv → H[q]? = some ce → ce.vm = .none → s.vm.findClass (zexn k) = some ce.cls →
    vx_W p l e R s m args below meth c H locs (hS h - hS h0) (hN h - hN h0) (vx_MQ below (zQ Γ o) (zXC Γ o) args s (hS o.2 - hS h0) (hN o.2 - hN h0) (zA Γ)) (F0 m pc ls st) q)
/-- a method's contract: from the heap h with these arguments to the end o -/
def Zm (Γ : zG) (X : zX) (d : Nat) (av : List Value) (h : zH) (o : zR × zH) : Prop :=
  zle h o.2 ∧ ∀ l : Launch, l.stackTraces = false → vx_Met l X.1 ((if zhh X = [] then Cond.code X.1 (zcc X) (zml X) (zrt X) else Cond.codeWith X.1 (zcc X) (zml X) (zrt X) (zhh X)) :: GW) { frames := d, cells := hS o.2 - hS h, slots := hN o.2 - hN h, locals := 40 * d }
    (va_Pc av (fun U => zRp Γ h U.heap ∧ zKK Γ U)) (zQ Γ o) (zXC Γ o) (hS o.2 - hS h) (hN o.2 - hN h) (zA Γ)
section ZROWS
variable {Γ : zG} {X : zX} {d : Nat} {h0 : zH} {o : zR × zH} {pc : Nat} {lv : List (Nat × Value)} {st : List Value} {h : zH}
theorem Z.go {pc' : Nat} {st' : List Value} (f : ∀ {p : Program} {l : Launch} {e : Env} {R : Room} {s : State} {m : MethodId} {args : Array Value} {below : List Frame} {meth : Method} {c : Code} {H : Heap} {locs : List Loc} {ls : Array Slot} {cells slots : Nat} {Q : State → Prop}, zC Γ X d h0 o.2 p l R s m args meth c → lv_has ls (zml X) lv →
      W p l e R s m args below meth c H locs cells slots Q (F0 m pc' ls st') → W p l e R s m args below meth c H locs cells slots Q (F0 m pc ls st)) (kk : Z Γ X d h0 o pc' lv st' h) : Z Γ X d h0 o pc lv st h :=
  ⟨kk.1, fun hle p l e R s m args below meth c H locs ls C hRp hS hl => f C hl (kk.2 hle p l e R s m args below meth c H locs ls C hRp hS hl)⟩
theorem Z.set {pc' : Nat} {st' : List Value} {lv' : List (Nat × Value)} (f : ∀ {p : Program} {l : Launch} {e : Env} {R : Room} {s : State} {m : MethodId} {args : Array Value} {below : List Frame} {meth : Method} {c : Code} {H : Heap} {locs : List Loc} {ls : Array Slot} {cells slots : Nat} {Q : State → Prop}, zC Γ X d h0 o.2 p l R s m args meth c → lv_has ls (zml X) lv →
      (∀ ls' : Array Slot, lv_has ls' (zml X) lv' → W p l e R s m args below meth c H locs cells slots Q (F0 m pc' ls' st')) → W p l e R s m args below meth c H locs cells slots Q (F0 m pc ls st)) (kk : Z Γ X d h0 o pc' lv' st' h) : Z Γ X d h0 o pc lv st h :=
  ⟨kk.1, fun hle p l e R s m args below meth c H locs ls C hRp hS hl => f C hl fun ls' hl' => kk.2 hle p l e R s m args below meth c H locs ls' C hRp hS hl'⟩
/-- fewer locals -/
theorem Z.sub {lv' : List (Nat × Value)} (ks : List Nat) (hk : lv_pick lv ks = lv') (kk : Z Γ X d h0 o pc lv' st h) : Z Γ X d h0 o pc lv st h :=
  ⟨kk.1, fun hle p l e R s m args below meth c H locs ls C hRp hS hl => kk.2 hle p l e R s m args below meth c H locs ls C hRp hS (lv_sub hl ks hk)⟩
theorem z_iconst {n : Int} (v : Int32) (hd : decode (zcc X) pc = .ok (.iconst n, 1)) (hv : Int32.ofInt n = v) (kk : Z Γ X d h0 o (pc + 1) lv (.int v :: st) h) : Z Γ X d h0 o pc lv st h := Z.go (fun C hl w => lv_iconst C.1 C.2.1 hd hv w) kk
theorem z_bipush {n : Int} (v : Int32) (hd : decode (zcc X) pc = .ok (.bipush n, 2)) (hv : (Int8.ofInt n).toInt32 = v) (kk : Z Γ X d h0 o (pc + 2) lv (.int v :: st) h) : Z Γ X d h0 o pc lv st h := Z.go (fun C hl w => lv_bipush C.1 C.2.1 hd hv w) kk
theorem z_sipush {n : Int} (v : Int32) (hd : decode (zcc X) pc = .ok (.sipush n, 3)) (hv : (Int16.ofInt n).toInt32 = v) (kk : Z Γ X d h0 o (pc + 3) lv (.int v :: st) h) : Z Γ X d h0 o pc lv st h := Z.go (fun C hl w => lv_sipush C.1 C.2.1 hd hv w) kk
theorem z_lconst {n : Fin 2} (v : Int64) (hd : decode (zcc X) pc = .ok (.lconst n, 1)) (hv : Int64.ofNat (n : Nat) = v) (kk : Z Γ X d h0 o (pc + 1) lv (.long v :: st) h) : Z Γ X d h0 o pc lv st h := Z.go (fun C hl w => lv_lconst C.1 C.2.1 hd hv w) kk
theorem z_ldc {index : Nat} (v : Int32) (hd : decode (zcc X) pc = .ok (.ldc index, 2)) (hw : Cond.constant X.1.cls index v ∈ GW) (kk : Z Γ X d h0 o (pc + 2) lv (.int v :: st) h) : Z Γ X d h0 o pc lv st h := Z.go (fun C hl w => lv_ldc C.1 C.2.1 C.2.2.2.2.1 (C.2.2.2.2.2.2.1 _ hw) hd w) kk
theorem z_ldcw {index : Nat} (v : Int32) (hd : decode (zcc X) pc = .ok (.ldc_w index, 3)) (hw : Cond.constant X.1.cls index v ∈ GW) (kk : Z Γ X d h0 o (pc + 3) lv (.int v :: st) h) : Z Γ X d h0 o pc lv st h := Z.go (fun C hl w => lv_ldcw C.1 C.2.1 C.2.2.2.2.1 (C.2.2.2.2.2.2.1 _ hw) hd w) kk
theorem z_ldc2 {index : Nat} (v : Int64) (hd : decode (zcc X) pc = .ok (.ldc2_w index, 3)) (hw : Cond.constantLong X.1.cls index v ∈ GW) (kk : Z Γ X d h0 o (pc + 3) lv (.long v :: st) h) : Z Γ X d h0 o pc lv st h := Z.go (fun C hl w => lv_ldc2 C.1 C.2.1 C.2.2.2.2.1 (C.2.2.2.2.2.2.1 _ hw) hd w) kk
theorem z_iload_n {k : Fin 4} {i : Nat} {x : Int32} (j : Nat) (hd : decode (zcc X) pc = .ok (.iload_n k, 1)) (hi : (k : Nat) = i) (hj : lv[j]? = some (i, .int x)) (kk : Z Γ X d h0 o (pc + 1) lv (.int x :: st) h) : Z Γ X d h0 o pc lv st h := Z.go (fun C hl w => lv_iload_n C.1 C.2.1 hd hi (lv_at hl j hj) w) kk
theorem z_iload {i : Nat} {x : Int32} (j : Nat) (hd : decode (zcc X) pc = .ok (.iload i, 2)) (hj : lv[j]? = some (i, .int x)) (kk : Z Γ X d h0 o (pc + 2) lv (.int x :: st) h) : Z Γ X d h0 o pc lv st h := Z.go (fun C hl w => lv_iload C.1 C.2.1 hd (lv_at hl j hj) w) kk
theorem z_lload_n {k : Fin 4} {i : Nat} {x : Int64} (j : Nat) (hd : decode (zcc X) pc = .ok (.lload_n k, 1)) (hi : (k : Nat) = i) (hj : lv[j]? = some (i, .long x)) (kk : Z Γ X d h0 o (pc + 1) lv (.long x :: st) h) : Z Γ X d h0 o pc lv st h := Z.go (fun C hl w => lv_lload_n C.1 C.2.1 hd hi (lv_at hl j hj) w) kk
theorem z_lload {i : Nat} {x : Int64} (j : Nat) (hd : decode (zcc X) pc = .ok (.lload i, 2)) (hj : lv[j]? = some (i, .long x)) (kk : Z Γ X d h0 o (pc + 2) lv (.long x :: st) h) : Z Γ X d h0 o pc lv st h := Z.go (fun C hl w => lv_lload C.1 C.2.1 hd (lv_at hl j hj) w) kk
theorem z_aload_n {k : Fin 4} {i : Nat} {x : Nat} (j : Nat) (hd : decode (zcc X) pc = .ok (.aload_n k, 1)) (hi : (k : Nat) = i) (hj : lv[j]? = some (i, .ref x)) (kk : Z Γ X d h0 o (pc + 1) lv (.ref x :: st) h) : Z Γ X d h0 o pc lv st h := Z.go (fun C hl w => lv_aload_n C.1 C.2.1 hd hi (lv_at hl j hj) w) kk
theorem z_aload {i : Nat} {x : Nat} (j : Nat) (hd : decode (zcc X) pc = .ok (.aload i, 2)) (hj : lv[j]? = some (i, .ref x)) (kk : Z Γ X d h0 o (pc + 2) lv (.ref x :: st) h) : Z Γ X d h0 o pc lv st h := Z.go (fun C hl w => lv_aload C.1 C.2.1 hd (lv_at hl j hj) w) kk
theorem z_istore_n {k : Fin 4} {i : Nat} {x : Int32} (lv' : List (Nat × Value)) (hd : decode (zcc X) pc = .ok (.istore_n k, 1)) (hi : (k : Nat) = i) (hn : i < zml X) (hv : (i, Value.int x) :: lv.filter (fun q => !(q.1 == i) && !(q.1 + 1 == i && q.2.category == 2)) = lv') (kk : Z Γ X d h0 o (pc + 1) lv' st h) : Z Γ X d h0 o pc lv (.int x :: st) h := Z.set (fun C hl w => lv_istore_n C.1 C.2.1 hd hi hl hn hv w) kk
theorem z_istore {i : Nat} {x : Int32} (lv' : List (Nat × Value)) (hd : decode (zcc X) pc = .ok (.istore i, 2)) (hn : i < zml X) (hv : (i, Value.int x) :: lv.filter (fun q => !(q.1 == i) && !(q.1 + 1 == i && q.2.category == 2)) = lv') (kk : Z Γ X d h0 o (pc + 2) lv' st h) : Z Γ X d h0 o pc lv (.int x :: st) h := Z.set (fun C hl w => lv_istore C.1 C.2.1 hd hl hn hv w) kk
theorem z_lstore_n {k : Fin 4} {i : Nat} {x : Int64} (lv' : List (Nat × Value)) (hd : decode (zcc X) pc = .ok (.lstore_n k, 1)) (hi : (k : Nat) = i) (hn : i + 1 < zml X) (hv : (i, Value.long x) :: lv.filter (fun q => !(q.1 == i) && (!(q.1 == i + 1) && !(q.1 + 1 == i && q.2.category == 2))) = lv') (kk : Z Γ X d h0 o (pc + 1) lv' st h) : Z Γ X d h0 o pc lv (.long x :: st) h := Z.set (fun C hl w => lv_lstore_n C.1 C.2.1 hd hi hl hn hv w) kk
theorem z_lstore {i : Nat} {x : Int64} (lv' : List (Nat × Value)) (hd : decode (zcc X) pc = .ok (.lstore i, 2)) (hn : i + 1 < zml X) (hv : (i, Value.long x) :: lv.filter (fun q => !(q.1 == i) && (!(q.1 == i + 1) && !(q.1 + 1 == i && q.2.category == 2))) = lv') (kk : Z Γ X d h0 o (pc + 2) lv' st h) : Z Γ X d h0 o pc lv (.long x :: st) h := Z.set (fun C hl w => lv_lstore C.1 C.2.1 hd hl hn hv w) kk
theorem z_astore_n {k : Fin 4} {i : Nat} {x : Nat} (lv' : List (Nat × Value)) (hd : decode (zcc X) pc = .ok (.astore_n k, 1)) (hi : (k : Nat) = i) (hn : i < zml X) (hv : (i, Value.ref x) :: lv.filter (fun q => !(q.1 == i) && !(q.1 + 1 == i && q.2.category == 2)) = lv') (kk : Z Γ X d h0 o (pc + 1) lv' st h) : Z Γ X d h0 o pc lv (.ref x :: st) h := Z.set (fun C hl w => lv_astore_n C.1 C.2.1 hd hi hl hn hv w) kk
theorem z_astore {i : Nat} {x : Nat} (lv' : List (Nat × Value)) (hd : decode (zcc X) pc = .ok (.astore i, 2)) (hn : i < zml X) (hv : (i, Value.ref x) :: lv.filter (fun q => !(q.1 == i) && !(q.1 + 1 == i && q.2.category == 2)) = lv') (kk : Z Γ X d h0 o (pc + 2) lv' st h) : Z Γ X d h0 o pc lv (.ref x :: st) h := Z.set (fun C hl w => lv_astore C.1 C.2.1 hd hl hn hv w) kk
theorem z_iinc {i : Nat} {n : Int} {x : Int32} (v : Int32) (k : Nat) (lv' : List (Nat × Value)) (hd : decode (zcc X) pc = .ok (.iinc i n, 3)) (hk : lv[k]? = some (i, .int x)) (hx : x + Int32.ofInt n = v) (hn : i < zml X) (hv : (i, Value.int v) :: lv.filter (fun q => !(q.1 == i) && !(q.1 + 1 == i && q.2.category == 2)) = lv') (kk : Z Γ X d h0 o (pc + 3) lv' st h) : Z Γ X d h0 o pc lv st h := Z.set (fun C hl w => lv_iinc C.1 C.2.1 hd hl hk hx hn hv w) kk
theorem z_iadd {x y : Int32} (hd : decode (zcc X) pc = .ok (.iadd, 1)) (kk : Z Γ X d h0 o (pc + 1) lv (.int (x + y) :: st) h) : Z Γ X d h0 o pc lv (.int y :: .int x :: st) h := Z.go (fun C hl w => lv_iadd C.1 C.2.1 hd w) kk
theorem z_isub {x y : Int32} (hd : decode (zcc X) pc = .ok (.isub, 1)) (kk : Z Γ X d h0 o (pc + 1) lv (.int (x - y) :: st) h) : Z Γ X d h0 o pc lv (.int y :: .int x :: st) h := Z.go (fun C hl w => lv_isub C.1 C.2.1 hd w) kk
theorem z_imul {x y : Int32} (hd : decode (zcc X) pc = .ok (.imul, 1)) (kk : Z Γ X d h0 o (pc + 1) lv (.int (x * y) :: st) h) : Z Γ X d h0 o pc lv (.int y :: .int x :: st) h := Z.go (fun C hl w => lv_imul C.1 C.2.1 hd w) kk
theorem z_iand {x y : Int32} (hd : decode (zcc X) pc = .ok (.iand, 1)) (kk : Z Γ X d h0 o (pc + 1) lv (.int (x &&& y) :: st) h) : Z Γ X d h0 o pc lv (.int y :: .int x :: st) h := Z.go (fun C hl w => lv_iand C.1 C.2.1 hd w) kk
theorem z_ior {x y : Int32} (hd : decode (zcc X) pc = .ok (.ior, 1)) (kk : Z Γ X d h0 o (pc + 1) lv (.int (x ||| y) :: st) h) : Z Γ X d h0 o pc lv (.int y :: .int x :: st) h := Z.go (fun C hl w => lv_ior C.1 C.2.1 hd w) kk
theorem z_ixor {x y : Int32} (hd : decode (zcc X) pc = .ok (.ixor, 1)) (kk : Z Γ X d h0 o (pc + 1) lv (.int (x ^^^ y) :: st) h) : Z Γ X d h0 o pc lv (.int y :: .int x :: st) h := Z.go (fun C hl w => lv_ixor C.1 C.2.1 hd w) kk
theorem z_ishl {x y : Int32} (hd : decode (zcc X) pc = .ok (.ishl, 1)) (kk : Z Γ X d h0 o (pc + 1) lv (.int (x <<< (y &&& 31)) :: st) h) : Z Γ X d h0 o pc lv (.int y :: .int x :: st) h := Z.go (fun C hl w => lv_ishl C.1 C.2.1 hd w) kk
theorem z_ishr {x y : Int32} (hd : decode (zcc X) pc = .ok (.ishr, 1)) (kk : Z Γ X d h0 o (pc + 1) lv (.int (x >>> (y &&& 31)) :: st) h) : Z Γ X d h0 o pc lv (.int y :: .int x :: st) h := Z.go (fun C hl w => lv_ishr C.1 C.2.1 hd w) kk
theorem z_ladd {x y : Int64} (hd : decode (zcc X) pc = .ok (.ladd, 1)) (kk : Z Γ X d h0 o (pc + 1) lv (.long (x + y) :: st) h) : Z Γ X d h0 o pc lv (.long y :: .long x :: st) h := Z.go (fun C hl w => lv_ladd C.1 C.2.1 hd w) kk
theorem z_lsub {x y : Int64} (hd : decode (zcc X) pc = .ok (.lsub, 1)) (kk : Z Γ X d h0 o (pc + 1) lv (.long (x - y) :: st) h) : Z Γ X d h0 o pc lv (.long y :: .long x :: st) h := Z.go (fun C hl w => lv_lsub C.1 C.2.1 hd w) kk
theorem z_lmul {x y : Int64} (hd : decode (zcc X) pc = .ok (.lmul, 1)) (kk : Z Γ X d h0 o (pc + 1) lv (.long (x * y) :: st) h) : Z Γ X d h0 o pc lv (.long y :: .long x :: st) h := Z.go (fun C hl w => lv_lmul C.1 C.2.1 hd w) kk
theorem z_land {x y : Int64} (hd : decode (zcc X) pc = .ok (.land, 1)) (kk : Z Γ X d h0 o (pc + 1) lv (.long (x &&& y) :: st) h) : Z Γ X d h0 o pc lv (.long y :: .long x :: st) h := Z.go (fun C hl w => lv_land C.1 C.2.1 hd w) kk
theorem z_lor {x y : Int64} (hd : decode (zcc X) pc = .ok (.lor, 1)) (kk : Z Γ X d h0 o (pc + 1) lv (.long (x ||| y) :: st) h) : Z Γ X d h0 o pc lv (.long y :: .long x :: st) h := Z.go (fun C hl w => lv_lor C.1 C.2.1 hd w) kk
theorem z_lxor {x y : Int64} (hd : decode (zcc X) pc = .ok (.lxor, 1)) (kk : Z Γ X d h0 o (pc + 1) lv (.long (x ^^^ y) :: st) h) : Z Γ X d h0 o pc lv (.long y :: .long x :: st) h := Z.go (fun C hl w => lv_lxor C.1 C.2.1 hd w) kk
theorem z_ineg {x : Int32} (hd : decode (zcc X) pc = .ok (.ineg, 1)) (kk : Z Γ X d h0 o (pc + 1) lv (.int (-x) :: st) h) : Z Γ X d h0 o pc lv (.int x :: st) h := Z.go (fun C hl w => lv_ineg C.1 C.2.1 hd w) kk
theorem z_lneg {x : Int64} (hd : decode (zcc X) pc = .ok (.lneg, 1)) (kk : Z Γ X d h0 o (pc + 1) lv (.long (-x) :: st) h) : Z Γ X d h0 o pc lv (.long x :: st) h := Z.go (fun C hl w => lv_lneg C.1 C.2.1 hd w) kk
theorem z_i2l {x : Int32} (hd : decode (zcc X) pc = .ok (.i2l, 1)) (kk : Z Γ X d h0 o (pc + 1) lv (.long x.toInt64 :: st) h) : Z Γ X d h0 o pc lv (.int x :: st) h := Z.go (fun C hl w => lv_i2l C.1 C.2.1 hd rfl w) kk
theorem z_l2i {x : Int64} (hd : decode (zcc X) pc = .ok (.l2i, 1)) (kk : Z Γ X d h0 o (pc + 1) lv (.int x.toInt32 :: st) h) : Z Γ X d h0 o pc lv (.long x :: st) h := Z.go (fun C hl w => lv_l2i C.1 C.2.1 hd rfl w) kk
theorem z_iushr {x y : Int32} (hd : decode (zcc X) pc = .ok (.iushr, 1)) (kk : Z Γ X d h0 o (pc + 1) lv (.int (x.toUInt32 >>> (y.toUInt32 &&& Int32.toUInt32 31)).toInt32 :: st) h) : Z Γ X d h0 o pc lv (.int y :: .int x :: st) h := Z.go (fun C hl w => lv_iushr C.1 C.2.1 hd rfl w) kk
theorem z_lushr {x : Int64} {y : Int32} (hd : decode (zcc X) pc = .ok (.lushr, 1)) (kk : Z Γ X d h0 o (pc + 1) lv (.long (x.toUInt64 >>> (y.toInt64.toUInt64 &&& Int64.toUInt64 63)).toInt64 :: st) h) : Z Γ X d h0 o pc lv (.int y :: .long x :: st) h := Z.go (fun C hl w => lv_lushr C.1 C.2.1 hd rfl w) kk
theorem z_lshl {x : Int64} {y : Int32} (hd : decode (zcc X) pc = .ok (.lshl, 1)) (kk : Z Γ X d h0 o (pc + 1) lv (.long (x <<< (y.toInt64 &&& 63)) :: st) h) : Z Γ X d h0 o pc lv (.int y :: .long x :: st) h := Z.go (fun C hl w => lv_lshl C.1 C.2.1 hd rfl w) kk
theorem z_lcmp {x y : Int64} (hd : decode (zcc X) pc = .ok (.lcmp, 1)) (kk : Z Γ X d h0 o (pc + 1) lv (.int (lg_cmp x y) :: st) h) : Z Γ X d h0 o pc lv (.long y :: .long x :: st) h := Z.go (fun C hl w => W.lcmp C.1 C.2.1 hd w) kk
def zdivI (x y : Int32) : Option Int32 := if y = 0 then none else some (x / y)
theorem z_idiv {β : Type} {x y : Int32} {K : Int32 → Option β} {w : β} (hd : decode (zcc X) pc = .ok (.idiv, 1)) (hf : (zdivI x y).bind K = some w) (kk : ∀ v : Int32, K v = some w → Z Γ X d h0 o (pc + 1) lv (.int v :: st) h) : Z Γ X d h0 o pc lv (.int y :: .int x :: st) h := by
  unfold zdivI at hf
  split at hf
  · cases hf
  · next hne => exact Z.go (fun C hl w => lv_idiv C.1 C.2.1 hd hne w) (kk _ hf)
def zremI (x y : Int32) : Option Int32 := if y = 0 then none else some (x - x / y * y)
theorem z_irem {β : Type} {x y : Int32} {K : Int32 → Option β} {w : β} (hd : decode (zcc X) pc = .ok (.irem, 1)) (hf : (zremI x y).bind K = some w) (kk : ∀ v : Int32, K v = some w → Z Γ X d h0 o (pc + 1) lv (.int v :: st) h) : Z Γ X d h0 o pc lv (.int y :: .int x :: st) h := by
  unfold zremI at hf
  split at hf
  · cases hf
  · next hne => exact Z.go (fun C hl w => lv_irem C.1 C.2.1 hd hne w) (kk _ hf)
def zdivL (x y : Int64) : Option Int64 := if y = 0 then none else some (x / y)
theorem z_ldiv {β : Type} {x y : Int64} {K : Int64 → Option β} {w : β} (hd : decode (zcc X) pc = .ok (.ldiv, 1)) (hf : (zdivL x y).bind K = some w) (kk : ∀ v : Int64, K v = some w → Z Γ X d h0 o (pc + 1) lv (.long v :: st) h) : Z Γ X d h0 o pc lv (.long y :: .long x :: st) h := by
  unfold zdivL at hf
  split at hf
  · cases hf
  · next hne => exact Z.go (fun C hl w => lv_ldiv C.1 C.2.1 hd hne w) (kk _ hf)
def zremL (x y : Int64) : Option Int64 := if y = 0 then none else some (x - x / y * y)
theorem z_lrem {β : Type} {x y : Int64} {K : Int64 → Option β} {w : β} (hd : decode (zcc X) pc = .ok (.lrem, 1)) (hf : (zremL x y).bind K = some w) (kk : ∀ v : Int64, K v = some w → Z Γ X d h0 o (pc + 1) lv (.long v :: st) h) : Z Γ X d h0 o pc lv (.long y :: .long x :: st) h := by
  unfold zremL at hf
  split at hf
  · cases hf
  · next hne => exact Z.go (fun C hl w => lv_lrem C.1 C.2.1 hd hne w) (kk _ hf)
theorem z_dup {va : Value} (hd : decode (zcc X) pc = .ok (.dup, 1)) (hva : va.category = 1) (kk : Z Γ X d h0 o (pc + 1) lv (va :: va :: st) h) : Z Γ X d h0 o pc lv (va :: st) h := Z.go (fun C hl w => lv_dup C.1 C.2.1 hd hva w) kk
theorem z_pop {va : Value} (hd : decode (zcc X) pc = .ok (.pop, 1)) (hva : va.category = 1) (kk : Z Γ X d h0 o (pc + 1) lv st h) : Z Γ X d h0 o pc lv (va :: st) h := Z.go (fun C hl w => lv_pop C.1 C.2.1 hd hva w) kk
theorem z_dup2 {va vb : Value} (hd : decode (zcc X) pc = .ok (.dup2, 1)) (hva : va.category = 1) (hvb : vb.category = 1) (kk : Z Γ X d h0 o (pc + 1) lv (va :: vb :: va :: vb :: st) h) : Z Γ X d h0 o pc lv (va :: vb :: st) h := Z.go (fun C hl w => lv_dup2_11 C.1 C.2.1 hd hva hvb w) kk
theorem z_goto {off : Int} (tgt : Nat) (hd : decode (zcc X) pc = .ok (.goto off, 3)) (ht : (pc : Int) + off = (tgt : Int)) (kk : Z Γ X d h0 o tgt lv st h) : Z Γ X d h0 o pc lv st h := Z.go (fun C hl w => lv_goto C.1 C.2.1 hd ht w) kk
theorem z_null (hd : decode (zcc X) pc = .ok (.aconst_null, 1)) (kk : Z Γ X d h0 o (pc + 1) lv (.null :: st) h) : Z Γ X d h0 o pc lv st h := Z.go (fun C hl w => lv_null C.1 C.2.1 hd w) kk
theorem z_icmp_eq {β : Type} {A B : Option β} {w : β} {x y : Int32} {off : Int} (tgt : Nat) (hd : decode (zcc X) pc = .ok (.if_icmp .eq off, 3)) (ht : (pc : Int) + off = (tgt : Int)) (hf : (if x = y then A else B) = some w) (kt : A = some w → Z Γ X d h0 o tgt lv st h) (kf : B = some w → Z Γ X d h0 o (pc + 3) lv st h) : Z Γ X d h0 o pc lv (.int y :: .int x :: st) h := by
  by_cases hc : x = y
  · rw [if_pos hc] at hf
    exact Z.go (fun C hl w => lv_icmp_eq C.1 C.2.1 hd ht (fun _ => w) (fun hn => absurd hc hn)) (kt hf)
  · rw [if_neg hc] at hf
    exact Z.go (fun C hl w => lv_icmp_eq C.1 C.2.1 hd ht (fun hp => absurd hp hc) (fun _ => w)) (kf hf)
theorem z_if_eq {β : Type} {A B : Option β} {w : β} {x : Int32} {off : Int} (tgt : Nat) (hd : decode (zcc X) pc = .ok (.ifCond .eq off, 3)) (ht : (pc : Int) + off = (tgt : Int)) (hf : (if x = 0 then A else B) = some w) (kt : A = some w → Z Γ X d h0 o tgt lv st h) (kf : B = some w → Z Γ X d h0 o (pc + 3) lv st h) : Z Γ X d h0 o pc lv (.int x :: st) h := by
  by_cases hc : x = 0
  · rw [if_pos hc] at hf
    exact Z.go (fun C hl w => lv_if_eq C.1 C.2.1 hd ht (fun _ => w) (fun hn => absurd hc hn)) (kt hf)
  · rw [if_neg hc] at hf
    exact Z.go (fun C hl w => lv_if_eq C.1 C.2.1 hd ht (fun hp => absurd hp hc) (fun _ => w)) (kf hf)
theorem z_icmp_lt {β : Type} {A B : Option β} {w : β} {x y : Int32} {off : Int} (tgt : Nat) (hd : decode (zcc X) pc = .ok (.if_icmp .lt off, 3)) (ht : (pc : Int) + off = (tgt : Int)) (hf : (if x < y then A else B) = some w) (kt : A = some w → Z Γ X d h0 o tgt lv st h) (kf : B = some w → Z Γ X d h0 o (pc + 3) lv st h) : Z Γ X d h0 o pc lv (.int y :: .int x :: st) h := by
  by_cases hc : x < y
  · rw [if_pos hc] at hf
    exact Z.go (fun C hl w => lv_icmp_lt C.1 C.2.1 hd ht (fun _ => w) (fun hn => absurd hc hn)) (kt hf)
  · rw [if_neg hc] at hf
    exact Z.go (fun C hl w => lv_icmp_lt C.1 C.2.1 hd ht (fun hp => absurd hp hc) (fun _ => w)) (kf hf)
theorem z_if_lt {β : Type} {A B : Option β} {w : β} {x : Int32} {off : Int} (tgt : Nat) (hd : decode (zcc X) pc = .ok (.ifCond .lt off, 3)) (ht : (pc : Int) + off = (tgt : Int)) (hf : (if x < 0 then A else B) = some w) (kt : A = some w → Z Γ X d h0 o tgt lv st h) (kf : B = some w → Z Γ X d h0 o (pc + 3) lv st h) : Z Γ X d h0 o pc lv (.int x :: st) h := by
  by_cases hc : x < 0
  · rw [if_pos hc] at hf
    exact Z.go (fun C hl w => lv_if_lt C.1 C.2.1 hd ht (fun _ => w) (fun hn => absurd hc hn)) (kt hf)
  · rw [if_neg hc] at hf
    exact Z.go (fun C hl w => lv_if_lt C.1 C.2.1 hd ht (fun hp => absurd hp hc) (fun _ => w)) (kf hf)
theorem z_icmp_ge {β : Type} {A B : Option β} {w : β} {x y : Int32} {off : Int} (tgt : Nat) (hd : decode (zcc X) pc = .ok (.if_icmp .ge off, 3)) (ht : (pc : Int) + off = (tgt : Int)) (hf : (if y ≤ x then A else B) = some w) (kt : A = some w → Z Γ X d h0 o tgt lv st h) (kf : B = some w → Z Γ X d h0 o (pc + 3) lv st h) : Z Γ X d h0 o pc lv (.int y :: .int x :: st) h := by
  by_cases hc : y ≤ x
  · rw [if_pos hc] at hf
    exact Z.go (fun C hl w => lv_icmp_ge C.1 C.2.1 hd ht (fun _ => w) (fun hn => absurd hc hn)) (kt hf)
  · rw [if_neg hc] at hf
    exact Z.go (fun C hl w => lv_icmp_ge C.1 C.2.1 hd ht (fun hp => absurd hp hc) (fun _ => w)) (kf hf)
theorem z_if_ge {β : Type} {A B : Option β} {w : β} {x : Int32} {off : Int} (tgt : Nat) (hd : decode (zcc X) pc = .ok (.ifCond .ge off, 3)) (ht : (pc : Int) + off = (tgt : Int)) (hf : (if 0 ≤ x then A else B) = some w) (kt : A = some w → Z Γ X d h0 o tgt lv st h) (kf : B = some w → Z Γ X d h0 o (pc + 3) lv st h) : Z Γ X d h0 o pc lv (.int x :: st) h := by
  by_cases hc : 0 ≤ x
  · rw [if_pos hc] at hf
    exact Z.go (fun C hl w => lv_if_ge C.1 C.2.1 hd ht (fun _ => w) (fun hn => absurd hc hn)) (kt hf)
  · rw [if_neg hc] at hf
    exact Z.go (fun C hl w => lv_if_ge C.1 C.2.1 hd ht (fun hp => absurd hp hc) (fun _ => w)) (kf hf)
theorem z_icmp_gt {β : Type} {A B : Option β} {w : β} {x y : Int32} {off : Int} (tgt : Nat) (hd : decode (zcc X) pc = .ok (.if_icmp .gt off, 3)) (ht : (pc : Int) + off = (tgt : Int)) (hf : (if y < x then A else B) = some w) (kt : A = some w → Z Γ X d h0 o tgt lv st h) (kf : B = some w → Z Γ X d h0 o (pc + 3) lv st h) : Z Γ X d h0 o pc lv (.int y :: .int x :: st) h := by
  by_cases hc : y < x
  · rw [if_pos hc] at hf
    exact Z.go (fun C hl w => lv_icmp_gt C.1 C.2.1 hd ht (fun _ => w) (fun hn => absurd hc hn)) (kt hf)
  · rw [if_neg hc] at hf
    exact Z.go (fun C hl w => lv_icmp_gt C.1 C.2.1 hd ht (fun hp => absurd hp hc) (fun _ => w)) (kf hf)
theorem z_if_gt {β : Type} {A B : Option β} {w : β} {x : Int32} {off : Int} (tgt : Nat) (hd : decode (zcc X) pc = .ok (.ifCond .gt off, 3)) (ht : (pc : Int) + off = (tgt : Int)) (hf : (if 0 < x then A else B) = some w) (kt : A = some w → Z Γ X d h0 o tgt lv st h) (kf : B = some w → Z Γ X d h0 o (pc + 3) lv st h) : Z Γ X d h0 o pc lv (.int x :: st) h := by
  by_cases hc : 0 < x
  · rw [if_pos hc] at hf
    exact Z.go (fun C hl w => lv_if_gt C.1 C.2.1 hd ht (fun _ => w) (fun hn => absurd hc hn)) (kt hf)
  · rw [if_neg hc] at hf
    exact Z.go (fun C hl w => lv_if_gt C.1 C.2.1 hd ht (fun hp => absurd hp hc) (fun _ => w)) (kf hf)
theorem z_icmp_le {β : Type} {A B : Option β} {w : β} {x y : Int32} {off : Int} (tgt : Nat) (hd : decode (zcc X) pc = .ok (.if_icmp .le off, 3)) (ht : (pc : Int) + off = (tgt : Int)) (hf : (if x ≤ y then A else B) = some w) (kt : A = some w → Z Γ X d h0 o tgt lv st h) (kf : B = some w → Z Γ X d h0 o (pc + 3) lv st h) : Z Γ X d h0 o pc lv (.int y :: .int x :: st) h := by
  by_cases hc : x ≤ y
  · rw [if_pos hc] at hf
    exact Z.go (fun C hl w => lv_icmp_le C.1 C.2.1 hd ht (fun _ => w) (fun hn => absurd hc hn)) (kt hf)
  · rw [if_neg hc] at hf
    exact Z.go (fun C hl w => lv_icmp_le C.1 C.2.1 hd ht (fun hp => absurd hp hc) (fun _ => w)) (kf hf)
theorem z_if_le {β : Type} {A B : Option β} {w : β} {x : Int32} {off : Int} (tgt : Nat) (hd : decode (zcc X) pc = .ok (.ifCond .le off, 3)) (ht : (pc : Int) + off = (tgt : Int)) (hf : (if x ≤ 0 then A else B) = some w) (kt : A = some w → Z Γ X d h0 o tgt lv st h) (kf : B = some w → Z Γ X d h0 o (pc + 3) lv st h) : Z Γ X d h0 o pc lv (.int x :: st) h := by
  by_cases hc : x ≤ 0
  · rw [if_pos hc] at hf
    exact Z.go (fun C hl w => lv_if_le C.1 C.2.1 hd ht (fun _ => w) (fun hn => absurd hc hn)) (kt hf)
  · rw [if_neg hc] at hf
    exact Z.go (fun C hl w => lv_if_le C.1 C.2.1 hd ht (fun hp => absurd hp hc) (fun _ => w)) (kf hf)
theorem z_ifnonnull {x : Nat} {off : Int} (tgt : Nat) (hd : decode (zcc X) pc = .ok (.ifnonnull off, 3)) (ht : (pc : Int) + off = (tgt : Int)) (kk : Z Γ X d h0 o tgt lv st h) : Z Γ X d h0 o pc lv (.ref x :: st) h := Z.go (fun C hl w => lv_ifnonnull C.1 C.2.1 hd ht w) kk
theorem z_ifnull {x : Nat} {off : Int} (hd : decode (zcc X) pc = .ok (.ifnull off, 3)) (kk : Z Γ X d h0 o (pc + 3) lv st h) : Z Γ X d h0 o pc lv (.ref x :: st) h := Z.go (fun C hl w => lv_ifnull C.1 C.2.1 hd w) kk
theorem z_ifnonnullN {off : Int} (hd : decode (zcc X) pc = .ok (.ifnonnull off, 3)) (kk : Z Γ X d h0 o (pc + 3) lv st h) : Z Γ X d h0 o pc lv (.null :: st) h := Z.go (fun C hl w => lv_ifnonnullN C.1 C.2.1 hd w) kk
theorem z_ifnullN {off : Int} (tgt : Nat) (hd : decode (zcc X) pc = .ok (.ifnull off, 3)) (ht : (pc : Int) + off = (tgt : Int)) (kk : Z Γ X d h0 o tgt lv st h) : Z Γ X d h0 o pc lv (.null :: st) h := Z.go (fun C hl w => lv_ifnullN C.1 C.2.1 hd ht w) kk
theorem z_tableIn {dflt lo hi : Int} {offs : Array Int} {len : Nat} {x : Int32} {off : Int} (tgt : Nat) (hd : decode (zcc X) pc = .ok (.tableswitch dflt lo hi offs, len)) (h1 : ¬ x.toInt < lo) (h2 : ¬ hi < x.toInt) (ho : offs[(x.toInt - lo).toNat]? = some off) (ht : (pc : Int) + off = (tgt : Int)) (kk : Z Γ X d h0 o tgt lv st h) : Z Γ X d h0 o pc lv (.int x :: st) h := Z.go (fun C hl w => lv_tableIn C.1 C.2.1 hd h1 h2 ho ht w) kk
theorem z_tableOut {dflt lo hi : Int} {offs : Array Int} {len : Nat} {x : Int32} (tgt : Nat) (hd : decode (zcc X) pc = .ok (.tableswitch dflt lo hi offs, len)) (hx : x.toInt < lo ∨ hi < x.toInt) (ht : (pc : Int) + dflt = (tgt : Int)) (kk : Z Γ X d h0 o tgt lv st h) : Z Γ X d h0 o pc lv (.int x :: st) h := Z.go (fun C hl w => lv_tableOut C.1 C.2.1 hd hx ht w) kk
theorem z_icmp_ne {β : Type} {A B : Option β} {w : β} {x y : Int32} {off : Int} (tgt : Nat) (hd : decode (zcc X) pc = .ok (.if_icmp .ne off, 3)) (ht : (pc : Int) + off = (tgt : Int)) (hf : (if x = y then A else B) = some w) (kt : A = some w → Z Γ X d h0 o (pc + 3) lv st h) (kf : B = some w → Z Γ X d h0 o tgt lv st h) : Z Γ X d h0 o pc lv (.int y :: .int x :: st) h := by
  by_cases hc : x = y
  · rw [if_pos hc] at hf
    exact Z.go (fun C hl w => lv_icmp_ne C.1 C.2.1 hd ht (fun hn => absurd hc hn) (fun _ => w)) (kt hf)
  · rw [if_neg hc] at hf
    exact Z.go (fun C hl w => lv_icmp_ne C.1 C.2.1 hd ht (fun _ => w) (fun hn => absurd hn hc)) (kf hf)
theorem z_if_ne {β : Type} {A B : Option β} {w : β} {x : Int32} {off : Int} (tgt : Nat) (hd : decode (zcc X) pc = .ok (.ifCond .ne off, 3)) (ht : (pc : Int) + off = (tgt : Int)) (hf : (if x = 0 then A else B) = some w) (kt : A = some w → Z Γ X d h0 o (pc + 3) lv st h) (kf : B = some w → Z Γ X d h0 o tgt lv st h) : Z Γ X d h0 o pc lv (.int x :: st) h := by
  by_cases hc : x = 0
  · rw [if_pos hc] at hf
    exact Z.go (fun C hl w => lv_if_ne C.1 C.2.1 hd ht (fun hn => absurd hc hn) (fun _ => w)) (kt hf)
  · rw [if_neg hc] at hf
    exact Z.go (fun C hl w => lv_if_ne C.1 C.2.1 hd ht (fun _ => w) (fun hn => absurd hn hc)) (kf hf)
end ZROWS

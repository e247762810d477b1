section ZTHROW
variable {p : Program} {l : Launch} {e : Env} {R : Room} {s : State} {m : MethodId} {args : Array Value} {below : List Frame} {meth : Method} {c : Code} {H : Heap} {locs : List Loc} {cells slots : Nat}
variable {free : Addr → Prop} {Qc : Array Value → State → Outcome → State → Prop} {XC : String → State → State → Prop} {ls : Array Slot} {rest : List Value}
theorem zx_throw0 {cc : ByteArray} {pc : Nat} (hexec : p.tables.exec = Jvm.exec) (hb : c.code = cc) (hl : l.stackTraces = false) {own cls : String} {names : List String} {ik ic mc ms : Nat} {A : Nat → Prop}
    (hown : s.vm.findClass own = some m.cls) (hcls : Bundle.fit cls = true) (hnames : ∀ n ∈ names, Bundle.fit n = true)
    (hk : (Cond.classLink own ik cls).before args s = true) (hini : (Cond.initialized cls).before args s = true) (hat : ∀ w ∈ vx_at0 own ic cls names, w.before args s = true)
    (hgood : ∀ w ∈ Cond.classLink own ik cls :: Cond.initialized cls :: vx_at0 own ic cls names, vx_ot w = true)
    (hU : vx_Zq Bundle.tN "UNASSIGNED_STACK" Bundle.steD A s s.heap) (hN : vx_Zq Bundle.tN "SUPPRESSED_SENTINEL" Bundle.listD A s s.heap) (hS : va_S A s.heap H locs) (hsize : ls.size = c.maxLocals)
    (d0 : decode cc pc = .ok (.new ik, 3)) (d3 : decode cc (pc + 3) = .ok (.dup, 1)) (d4 : decode cc (pc + 4) = .ok (.invokespecial ic, 3)) (d7 : decode cc (pc + 7) = .ok (.athrow, 1))
    (hout : ∀ x ∈ c.exceptionTable.toList, covers x (pc + 7) = false)
    (hRframes : names.length + 3 < R.frames) (hRlocals : (rest.map fun v => v.category).sum + (13 * (names.length + 1) + 42) ≤ R.locals) (hRcells : cells + 1 ≤ R.cells) (hRslots : slots + 6 ≤ R.slots) (hlocks : meth.locks = false)
    (hx : ∀ t : State, s.vm.Alike t.vm → t.heap.size = H.size + 1 → (∀ q : Nat, q < H.size → t.heap[q]? = H[q]?) → XC cls s t)
    (hf : ∀ z ∈ locs, free z.base) (hc : cells + 1 ≤ mc) (hs : slots + 6 ≤ ms) :
    W p l e R s m args below meth c H locs cells slots (vx_MQ below Qc XC args s mc ms free) (F0 m pc ls rest) := by
  intro T hT X
  have htr : e.platform.stackTraces = false := (show e.platform.stackTraces = l.stackTraces by rw [X.admits.platform]).trans hl
  have Y := vx_rebase X (R' := { frames := R.frames, locals := R.locals, cells := 1, slots := 6 }) (Nat.le_refl _) (Nat.le_refl _) hRcells hRslots
  obtain ⟨s', hA⟩ : ∃ z, z = (T.setVm s.vm).setFrames (.invoking m args :: below) := ⟨_, rfl⟩
  rw [← hA] at Y
  have hvm : s'.vm = s.vm := by rw [hA]; rfl
  have hhp : s'.heap = H := by rw [hA]; exact hT
  have hW0 : s.WarmedH s'.vm := by rw [hvm]; exact State.WarmedH.refl s
  have hat' : ∀ w ∈ vx_at0 own ic cls names, w.before args s' = true := fun w hw => vx_ot_at hW0 hvm.symm (hgood w (List.mem_cons_of_mem _ (List.mem_cons_of_mem _ hw))) (hat w hw)
  have hk' : (Cond.classLink own ik cls).before args s' = true := vx_ot_at hW0 hvm.symm (hgood _ List.mem_cons_self) hk
  have hini' : (Cond.initialized cls).before args s' = true := vx_ot_at hW0 hvm.symm (hgood _ (List.mem_cons_of_mem _ List.mem_cons_self)) hini
  have hU' : vx_Zq Bundle.tN "UNASSIGNED_STACK" Bundle.steD A s' s'.heap := by rw [hhp]; exact vx_Zq.moved hW0.alike (hU.kept hS.2.1)
  have hN' : vx_Zq Bundle.tN "SUPPRESSED_SENTINEL" Bundle.listD A s' s'.heap := by rw [hhp]; exact vx_Zq.moved hW0.alike (hN.kept hS.2.1)
  have h : ∀ w ∈ Bundle.ownAtoms0 own ic cls names, w.before args s' = true := vx_own hat' (vx_isRefq hU'.1) (vx_isRefq hN'.1) hU'.2.word hN'.2.word
  have hown' : s'.vm.findClass own = some m.cls := by rw [hvm]; exact hown
  have hins : (Cond.instantiable cls 6).before args s' = true := h _ (by simp [Bundle.ownAtoms0])
  obtain ⟨vm₁, cX, kX, hfX, hkX, -, -, X₁, st1⟩ := Y.newCold hexec (own := own) (C := cls) (index := ik) (n := 6) hown' hk' hins hini'
    (g := F0 m pc ls rest) rfl (by rw [hb]; exact d0) (Nat.le_refl _) (Nat.le_refl _)
  generalize hT1 : (T.setVm vm₁).pushCell { cls := cX, slots := kX.instanceTypes.map defaultValue, vm := .none } = T1 at X₁ st1
  have hcat : (Value.ref T.heap.size).category = 1 := rfl
  have hcellA : T1.heap[T.heap.size]? = some (freshCell cX kX) := by rw [← hT1]; exact State.heap_pushCell_size _ _
  have d3' : decode c.code (pc + 3) = .ok (.dup, 1) := by rw [hb]; exact d3
  obtain ⟨U, hsteps, hrun, hend, hW, hsame, ce, hce, hO⟩ := X₁.ctorThrow0 hexec htr (own := own) (cls := cls) (names := names) (ic := ic) hown' hcls hnames h (fun x hx => nomatch hx) hfX hkX hcellA (by rw [hhp, hT]; exact Nat.le_refl _)
    (g := { method := m, pc := pc + 4, locals := ls, stack := .ref T.heap.size :: .ref T.heap.size :: rest, locked := none }) rfl hsize rfl rfl (rest := rest) rfl
    (by rw [hb]; exact d4) (by rw [hb]; exact d7) hout hRframes (by simp only [List.map_cons, List.sum_cons, hcat]; omega) hlocks
  obtain ⟨f1, f2⟩ := vx_frame hsame
  rw [hhp] at f1 f2
  have hWs : s.WarmedH U.vm := State.WarmedH.trans hW0 hW
  have hcl : s.vm.findClass cls = some ce.cls := by
    have h9 := hO.cls
    rw [hvm] at h9
    exact h9
  have fsz : U.heap.size = H.size + 1 := by
    have g1 : T.heap.size < U.heap.size := (Array.getElem?_eq_some_iff.mp hce).1
    have g2 := hsame.2.2.1
    rw [hT] at g1
    simp only [hhp] at g2
    have g3 : U.heap.size ≤ H.size + 1 := g2
    omega
  have hall : s.sameButNew ({ U with vm := s.vm } : State) locs mc ms := by
    subst hA
    obtain ⟨e1, e2⟩ := hsame
    rw [State.setFrames_setFrames] at e1
    have h2 : (T.setVm s.vm).sameButNew ({ U with vm := s.vm } : State) [] (0 + 1) (0 + 6) := ⟨e1, e2⟩
    have h3 := X.same.trans h2
    rw [List.append_nil] at h3
    exact h3.mono hc hs
  refine ⟨U, ?_, .threw T.heap.size, hrun, hend, Or.inr ⟨T.heap.size, rfl, cls, ce, locs, hx U hWs.alike fsz (fun q hq => f2 q hq (fun z hz => nomatch hz)), hce, hO.vm, hcl, hWs, hall, hf⟩⟩
  refine st1 _ ?_
  show Steps p.tables e below (T1.setTop { method := m, pc := pc + 3, locals := ls, stack := .ref T.heap.size :: rest, locked := none }) _
  jvm_step X₁.here [X₁.here.top, hexec, d3', Value.category]
  exact hsteps
end ZTHROW
section ZCALL
variable {Γ : zG} {X : zX} {d : Nat} {h0 : zH} {o : zR × zH} {pc : Nat} {lv : List (Nat × Value)} {st : List Value} {h : zH}
def nwOb (c : Nat) (fs : List Value) (h : zH) : Option (Nat × zH) := some (hS h, hNew h (.inr (c, fs)) fs.length)
theorem z_new {β : Type} {K : Nat × zH → Option β} {w : β} {index c N : Nat} {C O : String} {T : u_T} {ty : Nat → FieldType} {fs : List Value} (hd : decode (zcc X) pc = .ok (.new index, 3)) (hcl : zClsO c C O T N ty) (hlk : Cond.classLink X.1.cls index C ∈ GW) (hin : Cond.instantiable C N ∈ GW) (hini : Cond.initialized C ∈ GW) (hlen : fs.length = N) (hfs : ∀ j, j < N → defaultValue (ty j) = vp_V fs j)
    (hf : (nwOb c fs h).bind K = some w) (kk : ∀ (q : Nat) (h1 : zH), K (q, h1) = some w → Z Γ X d h0 o (pc + 3) lv (.ref q :: st) h1) : Z Γ X d h0 o pc lv st h := by
  have kk := kk _ _ hf
  obtain ⟨hc, hws, hty, hnm, hdc⟩ := hcl
  refine ⟨zle.tr ⟨Nat.le_succ _, Nat.le_add_right _ _⟩ kk.1, fun hle p l e R s m args below meth c0 H locs ls C0 hRp hSv hl => ?_⟩
  have hsz := hRp.1
  obtain ⟨h9a, h9b⟩ := kk.1
  have e0 : hS (hNew h (.inr (c, fs)) fs.length) = hS h + 1 := rfl
  have e2 : hN (hNew h (.inr (c, fs)) fs.length) = hN h + N := by rw [← hlen]; rfl
  rw [e0] at h9a
  rw [e2] at h9b
  have hR1 := C0.2.2.2.2.2.2.2.2.2.2.2.2.1
  have hR2 := C0.2.2.2.2.2.2.2.2.2.2.2.2.2.1
  obtain ⟨hla, hlb⟩ := hle
  have hts := C0.2.2.2.2.2.2.1
  have hKn := C0.2.2.2.2.2.2.2.2.1.1.1 c _ hc
  refine W.newcK C0.1 C0.2.1 C0.2.2.2.2.1 (hts _ hlk) (hts _ hin) (hts _ hini) rfl hd (by omega) (by omega) hKn.2.1 rfl fun H1 kC hkC e1 z1 o1 => ?_
  have key := kk.2 ⟨by omega, by omega⟩ p l e R s m args below meth c0 H1 locs ls C0 (hRp.new ⟨_, hc, (u_born ty hts hws hKn hkC e1 hty).to hfs⟩ (zRl_o (vw_15 hc)) z1 o1) (zS.new hSv z1 o1) hl
  rw [e0, e2, show hS h + 1 - hS h0 = hS h - hS h0 + 1 by omega, show hN h + N - hN h0 = hN h - hN h0 + N by omega] at key
  rw [hsz]
  exact key
theorem z_newQ {β : Type} {K : Nat × zH → Option β} {w : β} {index : Nat} (k : Nat) {i : Int32} {C : String} (hC : zaty k = .object C) (hd : decode (zcc X) pc = .ok (.anewarray index, 3)) (hlk : Cond.classLink X.1.cls index C ∈ GW) (hov : Cond.arrayOver (.object C) ∈ lw_tbl)
    (hf : (nwQ k h i).bind K = some w) (kk : ∀ (q : Nat) (h1 : zH), K (q, h1) = some w → Z Γ X d h0 o (pc + 3) lv (.ref q :: st) h1) : Z Γ X d h0 o pc lv (.int i :: st) h := by
  obtain ⟨⟨q, h1⟩, h2, h3⟩ := Option.bind_eq_some_iff.mp hf
  have kk := kk _ _ h3
  unfold nwQ at h2
  split at h2
  · next hc =>
    obtain ⟨hk, hn, hm⟩ := hc
    cases h2
    refine ⟨zle.tr ⟨Nat.le_succ _, Nat.le_add_right _ _⟩ kk.1, fun hle p l e R s m args below meth c0 H locs ls C0 hRp hSv hl => ?_⟩
    have hsz := hRp.1
    obtain ⟨h9a, h9b⟩ := kk.1
    have e0 : hS (hNew h (.inl (k, i.toNatClampNeg, .inr (.inr (.inr (.inr (fun _ => none)))))) i.toNatClampNeg) = hS h + 1 := rfl
    have e2 : hN (hNew h (.inl (k, i.toNatClampNeg, .inr (.inr (.inr (.inr (fun _ => none)))))) i.toNatClampNeg) = hN h + i.toNatClampNeg := rfl
    rw [e0] at h9a
    rw [e2] at h9b
    have hR1 := C0.2.2.2.2.2.2.2.2.2.2.2.2.1
    have hR2 := C0.2.2.2.2.2.2.2.2.2.2.2.2.2.1
    obtain ⟨hla, hlb⟩ := hle
    have hk6 : k < 8 := by omega
    have hov2 : va_AO C s := C0.2.2.2.2.2.2.2.2.1.2.2.2.2.2.2.2.2.2.2.1 _ hov rfl
    have hRA := (C0.2.2.2.2.2.2.2.2.1.1.2 k _ (ztys_at Γ.2.1 hk6)).2
    refine W.anew C0.1 C0.2.1 C0.2.2.2.2.1 (C0.2.2.2.2.2.2.1 _ hlk) (va_AO.use hov2) rfl hd rfl hn (by omega) (by omega) (by omega) fun cA kA comp f1 f2 f3 f4 => ?_
    generalize hH1 : H.push ({ cls := cA, slots := Array.replicate i.toNatClampNeg .null, vm := .none } : Cell) = H1
    have z1 : H1.size = H.size + 1 := by rw [← hH1, Array.size_push]
    have e1 : H1[H.size]? = some (arrV cA i.toNatClampNeg (fun _ => .null)) := by rw [← hH1, Array.getElem?_push_size, ← arrV_new]
    have o1 : ∀ q : Nat, q < H.size → H1[q]? = H[q]? := fun q hq => by rw [← hH1, Array.getElem?_push, if_neg (Nat.ne_of_lt hq)]
    have hcA : cA = Γ.2.1 k := by
      rw [hC] at hRA
      obtain ⟨kA', comp', g1, g2, g3, g4⟩ := hRA
      exact Option.some.inj (f1.symm.trans g4)
    subst hcA
    have key := kk.2 ⟨by omega, by omega⟩ p l e R s m args below meth c0 H1 locs ls C0 (hRp.new (by
      show H1[H.size]? = some (vp_cell _ _)
      rw [vp_cell_q]
      exact e1) zRl_l z1 o1) (zS.new hSv z1 o1) hl
    rw [hsz]
    rw [e0, e2, show hS h + 1 - hS h0 = hS h - hS h0 + 1 by omega, show hN h + i.toNatClampNeg - hN h0 = hN h - hN h0 + i.toNatClampNeg by omega] at key
    exact key
  · cases h2
/-- Object() -/
theorem z_objInit {idx a : Nat} (hd : decode (zcc X) pc = .ok (.invokespecial idx, 3)) (hlk : Cond.methodLink X.1.cls idx Lib.objectInit ∈ GW) (hin : Cond.instanceMethod Lib.objectInit ∈ GW) (hco : Cond.code Lib.objectInit ⟨#[0xb1]⟩ 1 none ∈ GW) (hd1 : 1 ≤ d) (hst : (st.map fun v => v.category).sum ≤ 8) (kk : Z Γ X d h0 o (pc + 3) lv st h) : Z Γ X d h0 o pc lv (.ref a :: st) h :=
  ⟨kk.1, fun hle p l e R s m args below meth c H locs ls C hRp hSv hl => W.objInit C.1 C.2.1 C.2.2.2.2.1 (C.2.2.2.2.2.2.1 _ hlk) (C.2.2.2.2.2.2.1 _ hin) (C.2.2.2.2.2.2.1 _ hco) rfl (hl.1.trans C.2.2.2.1.symm) rfl hd (Nat.le_trans hd1 C.2.2.2.2.2.2.2.2.2.2.1)
    (by have h1 := C.2.2.2.2.2.2.2.2.2.2.2.1; have h2 := lv_room (m := m) (pc := pc) (ls := ls) (rest := .ref a :: st) hst; show 2 * (F0 m pc ls (.ref a :: st)).monitorRoom + _ + 12 ≤ _; omega) (kk.2 hle p l e R s m args below meth c H locs ls C hRp hSv hl)⟩
/-- ends -/
theorem z_iret {v : Int32} (hd : decode (zcc X) pc = .ok (.ireturn, 1)) (hrt : zrt X = some .int) (ho : o = (.inl (some (.int v)), h)) : Z Γ X d h0 o pc lv [.int v] h := by
  subst ho
  exact ⟨zle.rf, fun hle p l e R s m args below meth c H locs ls C hRp hSv hl => vx_ret (W.iret C.1 C.2.1 (C.2.2.1.trans hrt) (fun t ht hW => ⟨⟨_, rfl, rfl⟩, by rw [ht]; exact hRp, hSv.F ht⟩) hSv.2.2 hd C.2.2.2.2.2.2.2.1)⟩
theorem z_zret {v : Int32} (hd : decode (zcc X) pc = .ok (.ireturn, 1)) (hrt : zrt X = some .boolean) (hv : v = 0 ∨ v = 1) (ho : o = (.inl (some (.int v)), h)) : Z Γ X d h0 o pc lv [.int v] h := by
  subst ho
  exact ⟨zle.rf, fun hle p l e R s m args below meth c H locs ls C hRp hSv hl => vx_ret (W.zret C.1 C.2.1 (C.2.2.1.trans hrt) (by rcases hv with rfl | rfl <;> rfl) (fun t ht hW => ⟨⟨_, rfl, rfl⟩, by rw [ht]; exact hRp, hSv.F ht⟩) hSv.2.2 hd C.2.2.2.2.2.2.2.1)⟩
theorem z_lret {v : Int64} (hd : decode (zcc X) pc = .ok (.lreturn, 1)) (hrt : zrt X = some .long) (ho : o = (.inl (some (.long v)), h)) : Z Γ X d h0 o pc lv [.long v] h := by
  subst ho
  exact ⟨zle.rf, fun hle p l e R s m args below meth c H locs ls C hRp hSv hl => vx_ret (W.lret C.1 C.2.1 (C.2.2.1.trans hrt) (fun t ht hW => ⟨⟨_, rfl, rfl⟩, by rw [ht]; exact hRp, hSv.F ht⟩) hSv.2.2 hd C.2.2.2.2.2.2.2.1)⟩
theorem z_vret (hd : decode (zcc X) pc = .ok (.return_, 1)) (hrt : zrt X = none) (ho : o = (.inl none, h)) : Z Γ X d h0 o pc lv [] h := by
  subst ho
  exact ⟨zle.rf, fun hle p l e R s m args below meth c H locs ls C hRp hSv hl => vx_ret (W.vret C.1 C.2.1 (C.2.2.1.trans hrt) (fun t ht hW => ⟨⟨_, rfl, rfl⟩, by rw [ht]; exact hRp, hSv.F ht⟩) hSv.2.2 hd C.2.2.2.2.2.2.2.1)⟩
theorem z_aret {v : Value} {rt : FieldType} (hd : decode (zcc X) pc = .ok (.areturn, 1)) (hrt : zrt X = some rt) (hr : (∃ n, rt = .object n) ∨ ∃ t, rt = .array t) (hv : v = .null ∨ ∃ a, v = .ref a) (ho : o = (.inl (some v), h)) : Z Γ X d h0 o pc lv [v] h := by
  subst ho
  exact ⟨zle.rf, fun hle p l e R s m args below meth c H locs ls C hRp hSv hl => vx_ret (W.aret C.1 C.2.1 (C.2.2.1.trans hrt) hr hv (fun t ht hW => ⟨⟨_, rfl, rfl⟩, by rw [ht]; exact hRp, hSv.F ht⟩) hSv.2.2 hd C.2.2.2.2.2.2.2.1)⟩
theorem zexn_fit0 : Bundle.fit (zexn 0) = true := by decide +kernel
theorem zexn_fit1 : Bundle.fit (zexn 1) = true := by decide +kernel
theorem zexn_fit2 : Bundle.fit (zexn 2) = true := by decide +kernel
theorem zexn_fit3 : Bundle.fit (zexn 3) = true := by decide +kernel
theorem zexn_fit {k : Nat} (hk : k < 4) : Bundle.fit (zexn k) = true := by
  match k, hk with
  | 0, _ => exact zexn_fit0
  | 1, _ => exact zexn_fit1
  | 2, _ => exact zexn_fit2
  | 3, _ => exact zexn_fit3
theorem zexn_ch : ∀ n ∈ ["java/lang/RuntimeException", "java/lang/Exception"], Bundle.fit n = true := by decide +kernel
/-- new E(); throw -/
def zthr (k : Nat) (h : zH) : zH := hJunk h 6
theorem z_throw {ik ic : Nat} (k : Nat) (hk : k < 4) (d0 : decode (zcc X) pc = .ok (.new ik, 3)) (d3 : decode (zcc X) (pc + 3) = .ok (.dup, 1)) (d4 : decode (zcc X) (pc + 4) = .ok (.invokespecial ic, 3)) (d7 : decode (zcc X) (pc + 7) = .ok (.athrow, 1))
    (hlk : Cond.classLink X.1.cls ik (zexn k) ∈ GW) (hini : Cond.initialized (zexn k) ∈ GW) (hat : (vx_at0 X.1.cls ic (zexn k) ["java/lang/RuntimeException", "java/lang/Exception"]).all (fun w => (goodWord w || zxw w) && decide (w ∈ lw_tbl)) = true) (hot : (vx_at0 X.1.cls ic (zexn k) ["java/lang/RuntimeException", "java/lang/Exception"]).all (fun w => vx_ot w) = true)
    (hd6 : 8 ≤ d) (hhh : zhh X = []) (hst : (st.map fun v => v.category).sum ≤ 8) (ho : o = (.inr k, zthr k h)) : Z Γ X d h0 o pc lv st h := by
  subst ho
  refine ⟨⟨Nat.le_succ _, Nat.le_add_right _ _⟩, fun hle p l e R s m args below meth c H locs ls C hRp hSv hl => ?_⟩
  obtain ⟨hx, hb, hrt, hml, hown, hname, hts, hlocks, hKK, hl9, hR1, hR2, hR3, hR4, hR0, htab, hzle⟩ := id C
  have e0 : hS (zthr k h) = hS h + 1 := rfl
  have e2 : hN (zthr k h) = hN h + 6 := rfl
  obtain ⟨hla, hlb⟩ := hle
  have hno : ∀ x ∈ c.exceptionTable.toList, False := by
    intro x hx9
    rw [htab, hhh] at hx9
    cases hx9
  have hwd : ∀ w ∈ vx_at0 X.1.cls ic (zexn k) ["java/lang/RuntimeException", "java/lang/Exception"], w.before args s = true := by
    intro w hw
    have h9 := List.all_eq_true.mp hat w hw
    simp only [Bool.and_eq_true, Bool.or_eq_true, decide_eq_true_eq] at h9
    by_cases hg : goodWord w = true
    · exact hts _ (List.mem_filter.mpr ⟨h9.2, hg⟩)
    · have hz : zxw w = true := h9.1.resolve_left hg
      have h8 := hKK.2.2.2.2.2.2.2.2.2.2.1 w h9.2 hz
      have h7 := List.all_eq_true.mp hot w hw
      simp only [vx_ot, Bool.or_eq_true] at h7
      exact va_any (h7.resolve_right hg) h8
  have hR3' : hS h + 1 - hS h0 ≤ R.cells := hR3
  have hR4' : hN h + 6 - hN h0 ≤ R.slots := hR4
  refine zx_throw0 hx hb hl9 (names := ["java/lang/RuntimeException", "java/lang/Exception"]) (cls := zexn k) (A := zA Γ) hown (zexn_fit hk) zexn_ch (hts _ hlk) (hts _ hini) hwd ?_ hKK.2.2.1 hKK.2.2.2.1 hSv (hl.1.trans hml.symm) d0 d3 d4 d7 (fun x hx9 => (hno x hx9).elim) ?_ ?_ ?_ ?_ hlocks ?_ hSv.2.2 ?_ ?_
  · intro w hw
    rcases List.mem_cons.mp hw with rfl | hw
    · rfl
    · rcases List.mem_cons.mp hw with rfl | hw
      · rfl
      · exact List.all_eq_true.mp hot w hw
  · show 2 + 3 < R.frames
    omega
  · show _ + (13 * (2 + 1) + 42) ≤ R.locals
    omega
  · omega
  · omega
  · intro t hal hsz9 hk9
    exact ⟨⟨k, rfl, rfl⟩, hRp.junk hsz9 hk9, ⟨Nat.le_trans hSv.1 (by omega), fun q hq hna => (hk9 q (Nat.lt_of_lt_of_le hq hSv.1)).trans (hSv.2.1 q hq hna)⟩⟩
  · rw [e0]; omega
  · rw [e2]; omega
end ZCALL
theorem zx_ofW {l : Launch} {y : MethodName} {ws ws' : List Cond} {rm : Room} {Pc : Array Value → State → Prop} {Qc : Array Value → State → Outcome → State → Prop} {XC : String → State → State → Prop} {mc ms : Nat} {free : Addr → Prop} {cc : ByteArray} {maxL : Nat} {ret : Option FieldType}
    (hy : plainFor y = true) (hw : ws = Cond.code y cc maxL ret :: ws')
    (body : ∀ p e s m args below meth c s₁, BodyLoose p l y (headSpec ws rm) cc maxL ret e s m args below meth c s₁ → c.maxLocals = maxL → (∀ x ∈ c.exceptionTable.toList, False) → Pc args s →
      W p l e (headSpec ws rm).room s m args below meth c s.heap [] 0 0 (vx_MQ below Qc XC args s mc ms free) (entryFrame m args maxL)) : vx_Met l y ws rm Pc Qc XC mc ms free := by
  refine MetFree.of_bodySF (code := cc) (maxLocals := maxL) (ret := ret) hy ?_ ?_
  · intro args s m h hn
    obtain ⟨meth, c, h1, h2, h3, h4, h5, h6, -, -⟩ := Cond.code_spec hn (atoms_spec (ws := ws) h _ (by rw [hw]; exact List.mem_cons_self))
    exact ⟨meth, c, h1, h2, h3, h4, h5, h6⟩
  · intro p e s m args below meth c s₁ B hml hP _
    have hh0 : s₁.heap = s.heap := by rw [B.state]; rfl
    have ht : ∀ x ∈ c.exceptionTable.toList, False := by
      obtain ⟨meth9, c9, h1, h2, -, -, -, -, h7, -⟩ := Cond.code_spec B.named (atoms_spec (ws := ws) B.pre _ (by rw [hw]; exact List.mem_cons_self))
      cases Option.some.inj (h1.symm.trans B.method)
      cases Option.some.inj (h2.symm.trans (Stand.of_body B).code)
      intro x hx
      rw [Array.isEmpty_iff.mp h7] at hx
      cases hx
    obtain ⟨t, a1, o, b1, b2, b3⟩ := body p e s m args below meth c s₁ B hml ht hP s₁ hh0 (Stand.of_body B)
    exact ⟨t, o, a1, b1, b2, b3⟩
section ZCALL2
variable {Γ : zG} {X : zX} {d : Nat} {h0 : zH} {o : zR × zH} {pc : Nat} {lv : List (Nat × Value)} {st : List Value} {h : zH}
theorem zle_cases {a : zR × zH} {o : zR × zH} {r : zR} {A : Option Value → Prop} {B : Nat → Prop} {h1 : zH} (hk : ∀ v, r = .inl v → A v) (hx : ∀ k, r = .inr k → B k) (ha : ∀ v, A v → zle h1 o.2) (hb : ∀ k, B k → zle h1 o.2) : zle h1 o.2 := by
  cases r with
  | inl v => exact ha v (hk v rfl)
  | inr k => exact hb k (hx k rfl)
/-- behind a call's run -/
theorem z_back {Γ : zG} {X : zX} {d : Nat} {h0 : zH} {o : zR × zH} {pc : Nat} {lv : List (Nat × Value)} {rest st0 : List Value} {h h1 : zH} {r : zR}
    (hle1 : zle h h1) (hle : zle h0 h) {p : Program} {l : Launch} {e : Env} {R : Room} {s : State} {m : MethodId} {args : Array Value} {below : List Frame} {meth : Method} {c : Code} {H : Heap} {locs : List Loc} {ls : Array Slot} {av : Array Value}
    (C : zC Γ X d h0 o.2 p l R s m args meth c) (hSv : va_S (zA Γ) s.heap H locs) (hl : lv_has ls (zml X) lv)
    (run : vx_Run p l e R s m args below meth c H locs (hS h - hS h0) (hN h - hN h0) (hS h1 - hS h) (hN h1 - hN h) (F0 m pc ls st0) rest (zQ Γ (r, h1) av) (zXC Γ (r, h1)) (zA Γ))
    (kk : ∀ v : Option Value, r = .inl v → Z Γ X d h0 o (pc + 3) lv (v.toList ++ rest) h1) (kx : ∀ k : Nat, r = .inr k → Zx Γ X d h0 o pc lv rest k h1) :
    W p l e R s m args below meth c H locs (hS h - hS h0) (hN h - hN h0) (vx_MQ below (zQ Γ o) (zXC Γ o) args s (hS o.2 - hS h0) (hN o.2 - hN h0) (zA Γ)) (F0 m pc ls st0) := by
  obtain ⟨g1, g2⟩ := hle1
  obtain ⟨g3, g4⟩ := hle
  have c1 : hS h - hS h0 + (hS h1 - hS h) = hS h1 - hS h0 := by omega
  have c2 : hN h - hN h0 + (hN h1 - hN h) = hN h1 - hN h0 := by omega
  intro T hT Xs
  rcases run T hT Xs with ⟨v, st₀, t, T', L, h0', X', hL, e1, e2, ⟨⟨v', hr, hv⟩, hRp1, hF⟩, stp⟩ | ⟨q, st₀, t, T', L, E, ce, h0', X', hL, e1, e2, ⟨⟨k, hr, hE⟩, hRp1, hF⟩, hce, hcv, hcl, stp⟩
  · cases hv
    rw [c1, c2] at X'
    obtain ⟨k1, k2, k3⟩ := vx_keep h0' e1 hSv (fun _ _ h => h) (fun _ h => h) hL hF
    obtain ⟨t2, a1, b1⟩ := (kk v hr).2 ⟨by omega, by omega⟩ p l e R s m args below meth c T'.heap (locs ++ L) ls C (by rw [e1]; exact hRp1) k3 hl T' rfl X'
    exact ⟨t2, stp t2 a1, b1⟩
  · subst hE
    rw [c1, c2] at X'
    obtain ⟨k1, k2, k3⟩ := vx_keep h0' e1 hSv (fun _ _ h => h) (fun _ h => h) hL hF
    obtain ⟨t2, a1, b1⟩ := (kx k hr).2 ⟨by omega, by omega⟩ p l e R s m args below meth c T'.heap (locs ++ L) ls q ce C (by rw [e1]; exact hRp1) k3 hl (by rw [e1]; exact hce) hcv hcl T' rfl X'
    exact ⟨t2, stp.trans a1, b1⟩
theorem z_blind {Γ : zG} {h : zH} {av : List Value} : FrameBlind (va_Pc av (fun U => zRp Γ h U.heap ∧ zKK Γ U)) := by
  intro a U g mk ⟨h1, h2, h3⟩
  exact ⟨h1, h2, zKK.warm (s := U) (U := U.calling g mk a) (State.WarmedH.refl U) (Nat.le_refl _) (fun _ _ _ => rfl) h3⟩
theorem z_good {X Y : zX} {index : Nat} {C : String} (hhh : zhh Y = []) (w1 : Cond.methodLink X.1.cls index Y.1 ∈ GW) (w2 : Cond.instanceMethod Y.1 ∈ GW) (w3 : Cond.selects C Y.1 Y.1 ∈ GW) (w4 : Cond.initialized C ∈ GW) (w5 : Cond.code Y.1 (zcc Y) (zml Y) (zrt Y) ∈ GW) : GoodIn GW (wsV X.1.cls index C Y.1 (Cond.code Y.1 (zcc Y) (zml Y) (zrt Y) :: GW)) := by
  intro w hw
  have hm : w ∈ GW := by
    simp only [wsV, List.mem_append, List.mem_cons, List.not_mem_nil, or_false] at hw
    rcases hw with (rfl | rfl | rfl | rfl) | rfl | hw
    · exact w1
    · exact w2
    · exact w3
    · exact w4
    · exact w5
    · exact hw
  exact ⟨hm, good_of_word (gw_good hm)⟩
theorem z_goodS {X Y : zX} {index : Nat} (w1 : Cond.methodLink X.1.cls index Y.1 ∈ GW) (w2 : Cond.static Y.1 ∈ GW) (w4 : Cond.initialized Y.1.cls ∈ GW) {wc : Cond} (w5 : wc ∈ GW) : GoodIn GW (va_wsS X.1.cls index Y.1 (wc :: GW)) := by
  intro w hw
  have hm : w ∈ GW := by
    simp only [va_wsS, List.mem_append, List.mem_cons, List.not_mem_nil, or_false] at hw
    rcases hw with (rfl | rfl | rfl) | rfl | hw
    · exact w1
    · exact w2
    · exact w4
    · exact w5
    · exact hw
  exact ⟨hm, good_of_word (gw_good hm)⟩
/-- the links of a call -/
def zLV (own : String) (index : Nat) (Y : zX) (n : Nat) : Prop := zhh Y = [] ∧ Cond.methodLink own index Y.1 ∈ GW ∧ Cond.instanceMethod Y.1 ∈ GW ∧ Cond.selects Y.1.cls Y.1 Y.1 ∈ GW ∧ Cond.initialized Y.1.cls ∈ GW ∧ Cond.code Y.1 (zcc Y) (zml Y) (zrt Y) ∈ GW ∧ (Y.1.cls ≠ "java/lang/invoke/MethodHandle" ∧ Y.1.cls ≠ "java/lang/invoke/VarHandle" ∧ (parseMethodDescriptor Y.1.desc).map (fun d => d.parameters.length) = some n) ∧ zml Y ≤ 21
def zLS (own : String) (index : Nat) (Y : zX) (n : Nat) : Prop := zhh Y = [] ∧ Cond.methodLink own index Y.1 ∈ GW ∧ Cond.static Y.1 ∈ GW ∧ Cond.initialized Y.1.cls ∈ GW ∧ Cond.code Y.1 (zcc Y) (zml Y) (zrt Y) ∈ GW ∧ (Y.1.cls ≠ "java/lang/invoke/MethodHandle" ∧ Y.1.cls ≠ "java/lang/invoke/VarHandle" ∧ (parseMethodDescriptor Y.1.desc).map (fun d => d.parameters.length) = some n) ∧ zml Y ≤ 21
def zLI (own : String) (index : Nat) (Y : zX) (n : Nat) : Prop := zhh Y = [] ∧ Cond.methodLink own index Y.1 ∈ GW ∧ Cond.instanceMethod Y.1 ∈ GW ∧ Cond.initialized Y.1.cls ∈ GW ∧ Cond.code Y.1 (zcc Y) (zml Y) none ∈ GW ∧ zrt Y = none ∧ Y.1.name = "<init>" ∧ (Y.1.cls ≠ "java/lang/invoke/MethodHandle" ∧ Y.1.cls ≠ "java/lang/invoke/VarHandle" ∧ (parseMethodDescriptor Y.1.desc).map (fun d => d.parameters.length) = some n) ∧ zml Y ≤ 21
theorem zexn_inj : ∀ i j : Nat, zexn i = zexn j → i < 4 → j < 4 → i = j := by
  intro i j h hi hj
  match i, j, hi, hj with
  | 0, 0, _, _ => rfl
  | 1, 1, _, _ => rfl
  | 2, 2, _, _ => rfl
  | 3, 3, _, _ => rfl
  | 0, 1, _, _ => exact absurd h (by decide)
  | 0, 2, _, _ => exact absurd h (by decide)
  | 0, 3, _, _ => exact absurd h (by decide)
  | 1, 0, _, _ => exact absurd h (by decide)
  | 1, 2, _, _ => exact absurd h (by decide)
  | 1, 3, _, _ => exact absurd h (by decide)
  | 2, 0, _, _ => exact absurd h (by decide)
  | 2, 1, _, _ => exact absurd h (by decide)
  | 2, 3, _, _ => exact absurd h (by decide)
  | 3, 0, _, _ => exact absurd h (by decide)
  | 3, 1, _, _ => exact absurd h (by decide)
  | 3, 2, _, _ => exact absurd h (by decide)
theorem z_callV {index n b d' ci N : Nat} {T : u_T} {fs : List Value} {Y : zX} {r : zR} {h1 : zH} {As rest : List Value} (hd : decode (zcc X) pc = .ok (.invokevirtual index, 3)) (hL : zLV X.1.cls index Y n) (hci : vwCl[ci]? = some (Y.1.cls, T, N)) (hb : hM h b = some (.inr (ci, fs))) (hMt : Zm Γ Y d' (.ref b :: As) h (r, h1)) (hdd : d' + 1 ≤ d) (hn : As.length = n) (hst0 : st = As.reverse ++ .ref b :: rest) (hst : (rest.map fun v => v.category).sum ≤ 8)
    (kk : ∀ v : Option Value, r = .inl v → Z Γ X d h0 o (pc + 3) lv (v.toList ++ rest) h1) (kx : ∀ k : Nat, r = .inr k → Zx Γ X d h0 o pc lv rest k h1) : Z Γ X d h0 o pc lv st h := by
  obtain ⟨hhh, w1, w2, w3, w4, w5, hdsc, hml21⟩ := hL
  have hle2 : zle h1 o.2 := by
    cases r with
    | inl v => exact (kk v rfl).1
    | inr k => exact (kx k rfl).1
  refine ⟨zle.tr hMt.1 hle2, fun hle p l e R s m args below meth c H locs ls C hRp hSv hl => ?_⟩
  obtain ⟨hx, hb0, hrt, hml, hown, hname, hts, hlocks, hKK, hl9, hR1, hR2, hR3, hR4, hR0, htab, hzle⟩ := id C
  have hMl := hMt.2 l hl9
  rw [if_pos hhh] at hMl
  have hle1 : zle h h1 := hMt.1
  obtain ⟨hA, rr, g0, cellB, g1, g2, g3, g4⟩ := hRp.o hb hci
  have hrr : rr = (Y.1.cls, T, N) := Option.some.inj (g0.symm.trans hci)
  subst hrr
  have hcls := (hKK.1.1 ci _ hci).2.1
  subst hst0
  obtain ⟨g5, g6⟩ := hle1
  obtain ⟨g7, g8⟩ := hle
  obtain ⟨g9, g10⟩ := hle2
  refine z_back (av := (Value.ref b :: As).toArray) ⟨g5, g6⟩ ⟨g7, g8⟩ C hSv hl (vx_runV (As := As) (rest := rest) ⟨hx, hb0, hml, hown, hts⟩ hMl (cwV n hts (z_good hhh w1 w2 w3 w4 w5) rfl rfl rfl ⟨rfl, hdsc⟩ ⟨by show d' + 1 ≤ R.frames; omega, by show 8 + (zml Y + 11) + 40 * d' ≤ R.locals; omega⟩) ⟨z_blind, ⟨cellB, g1, by rw [g3]; rfl, by rw [g2]; exact hcls⟩, fun U hU hW => ⟨rfl, by rw [hU]; exact hRp, ?_⟩⟩ rfl hn hl.1 rfl (lv_room hst) hd ⟨by show hS h - hS h0 + (hS h1 - hS h) ≤ R.cells; omega, by show hN h - hN h0 + (hN h1 - hN h) ≤ R.slots; omega⟩) kk kx
  exact zKK.warm hW (by rw [hU]; exact hSv.1) (fun q h1 h2 => by rw [hU]; exact hSv.2.1 q h1 h2) hKK
theorem z_callS {index n d' : Nat} {Y : zX} {r : zR} {h1 : zH} {As rest : List Value} (hd : decode (zcc X) pc = .ok (.invokestatic index, 3)) (hL : zLS X.1.cls index Y n) (hMt : Zm Γ Y d' As h (r, h1)) (hdd : d' + 1 ≤ d) (hn : As.length = n) (hst0 : st = As.reverse ++ rest) (hst : (rest.map fun v => v.category).sum ≤ 8)
    (kk : ∀ v : Option Value, r = .inl v → Z Γ X d h0 o (pc + 3) lv (v.toList ++ rest) h1) (kx : ∀ k : Nat, r = .inr k → Zx Γ X d h0 o pc lv rest k h1) : Z Γ X d h0 o pc lv st h := by
  obtain ⟨hhh, w1, w2, w4, w5, hdsc, hml21⟩ := hL
  have hle2 : zle h1 o.2 := by
    cases r with
    | inl v => exact (kk v rfl).1
    | inr k => exact (kx k rfl).1
  refine ⟨zle.tr hMt.1 hle2, fun hle p l e R s m args below meth c H locs ls C hRp hSv hl => ?_⟩
  obtain ⟨hx, hb0, hrt, hml, hown, hname, hts, hlocks, hKK, hl9, hR1, hR2, hR3, hR4, hR0, htab, hzle⟩ := id C
  have hMl := hMt.2 l hl9
  rw [if_pos hhh] at hMl
  have hle1 : zle h h1 := hMt.1
  subst hst0
  obtain ⟨g5, g6⟩ := hle1
  obtain ⟨g7, g8⟩ := hle
  obtain ⟨g9, g10⟩ := hle2
  refine z_back (av := As.toArray) ⟨g5, g6⟩ ⟨g7, g8⟩ C hSv hl (vx_runS (As := As) (rest := rest) ⟨hx, hb0, hml, hown, hts⟩ hMl (va_cwS n hts (z_goodS w1 w2 w4 w5) rfl rfl rfl hdsc ⟨by show d' + 1 ≤ R.frames; omega, by show 8 + (zml Y + 11) + 40 * d' ≤ R.locals; omega⟩) ⟨z_blind, fun U hU hW => ⟨rfl, by rw [hU]; exact hRp, ?_⟩⟩ rfl hn hl.1 rfl (lv_room hst) hd ⟨by show hS h - hS h0 + (hS h1 - hS h) ≤ R.cells; omega, by show hN h - hN h0 + (hN h1 - hN h) ≤ R.slots; omega⟩) kk kx
  exact zKK.warm hW (by rw [hU]; exact hSv.1) (fun q h1 h2 => by rw [hU]; exact hSv.2.1 q h1 h2) hKK
/-- a constructor -/
theorem z_callI {index n b d' : Nat} {Y : zX} {v : Option Value} {h1 : zH} {As rest : List Value} (hd : decode (zcc X) pc = .ok (.invokespecial index, 3)) (hL : zLI X.1.cls index Y n) (hMt : Zm Γ Y d' (.ref b :: As) h (.inl v, h1)) (hdd : d' + 1 ≤ d) (hn : As.length = n) (hst0 : st = As.reverse ++ .ref b :: rest) (hst : (rest.map fun v => v.category).sum ≤ 8)
    (kk : Z Γ X d h0 o (pc + 3) lv (v.toList ++ rest) h1) : Z Γ X d h0 o pc lv st h := by
  obtain ⟨hhh, w1, w2, w4, w5, hrtn, hnm, hdsc, hml21⟩ := hL
  have hle2 : zle h1 o.2 := kk.1
  refine ⟨zle.tr hMt.1 hle2, fun hle p l e R s m args below meth c H locs ls C hRp hSv hl => ?_⟩
  obtain ⟨hx, hb0, hrt, hml, hown, hname, hts, hlocks, hKK, hl9, hR1, hR2, hR3, hR4, hR0, htab, hzle⟩ := id C
  have hMl := hMt.2 l hl9
  rw [if_pos hhh, hrtn] at hMl
  have hle1 : zle h h1 := hMt.1
  subst hst0
  obtain ⟨g5, g6⟩ := hle1
  obtain ⟨g7, g8⟩ := hle
  obtain ⟨g9, g10⟩ := hle2
  have hMM : Met l Y.1 (Cond.code Y.1 (zcc Y) (zml Y) none :: GW) { frames := d', cells := hS h1 - hS h, slots := hN h1 - hN h, locals := 40 * d' } (va_Pc (.ref b :: As) (fun U => zRp Γ h U.heap ∧ zKK Γ U)) (zQ Γ (.inl v, h1)) (hS h1 - hS h) (hN h1 - hN h) (zA Γ) := by
    refine MetFree.mono hMl (fun _ _ h => h) (fun _ _ _ _ _ h => h) (fun a st1 oc t hp hq => ?_)
    rcases hq with hq | ⟨q, -, E, ce, L, ⟨⟨k, hk, -⟩, -⟩, -⟩
    · exact hq
    · cases hk
  have run := va_runI (As := As) (rest := rest) ⟨hx, hb0, hml, hown, hts⟩ hMM (cwI n hts (fun w hw => ⟨(List.mem_cons.mp hw).elim (fun e => by rw [e]; exact w5) id, good_of_word (gw_good ((List.mem_cons.mp hw).elim (fun e => by rw [e]; exact w5) id))⟩) rfl rfl rfl (hts _ w4) (hts _ w1) (hts _ w2) hnm hdsc ⟨by show d' + 1 ≤ R.frames; omega, by show 8 + (zml Y + 11) + 40 * d' ≤ R.locals; omega⟩) ⟨z_blind, fun U hU hW => ⟨rfl, by rw [hU]; exact hRp, zKK.warm hW (by rw [hU]; exact hSv.1) (fun q h1 h2 => by rw [hU]; exact hSv.2.1 q h1 h2) hKK⟩⟩ (g := F0 m pc ls (As.reverse ++ .ref b :: rest)) rfl hn hl.1 rfl (lv_room hst) hd (p := p) (e := e) (below := below) (meth := meth) (R := R) (locs := locs) (H := H) (cells := hS h - hS h0) (slots := hN h - hN h0) ⟨by show hS h - hS h0 + (hS h1 - hS h) ≤ R.cells; omega, by show hN h - hN h0 + (hN h1 - hN h) ≤ R.slots; omega⟩
  refine z_back (r := .inl v) (av := (Value.ref b :: As).toArray) ⟨g5, g6⟩ ⟨g7, g8⟩ C hSv hl (fun T hT Xs => Or.inl (run T hT Xs)) (fun v' hv' => by cases hv'; exact kk) (fun k hk => by cases hk)
/-- thrown out of the method -/
theorem zx_out {k : Nat} (hhh : zhh X = []) (ho : o = (.inr k, h)) : Zx Γ X d h0 o pc lv st k h := by
  subst ho
  refine ⟨zle.rf, fun hle p l e R s m args below meth c H locs ls q ce C hRp hSv hl hce hcv hcl => ?_⟩
  have hno : ∀ x ∈ c.exceptionTable.toList, covers x pc = false := by
    intro x hx9
    rw [C.2.2.2.2.2.2.2.2.2.2.2.2.2.2.2.1, hhh] at hx9
    cases hx9
  exact vx_out hno C.2.2.2.2.2.2.2.1 hce hcv hcl (fun t ht hal => ⟨⟨k, rfl, rfl⟩, by rw [ht]; exact hRp, hSv.F ht⟩) hSv.2.2 (Nat.le_refl _) (Nat.le_refl _)
/-- from the body to the contract -/
theorem z_meth {av : List Value} (hhh : zhh X = []) (hpl : plainFor X.1 = true) (hlen : (lg_sl av).length ≤ zml X) (kk : Z Γ X d h o 0 (lv_args 0 av) [] h) : Zm Γ X d av h o := by
  refine ⟨kk.1, fun l hl9 => ?_⟩
  rw [if_pos hhh]
  refine zx_ofW (cc := zcc X) (maxL := zml X) (ret := zrt X) hpl rfl ?_
  intro p e s m args below meth c s₁ B hml hno hv
  obtain ⟨rfl, hRp, hKK⟩ := hv
  have hts0 : ∀ w ∈ (Cond.code X.1 (zcc X) (zml X) (zrt X) :: GW), w.before av.toArray s = true := atoms_spec (ws := Cond.code X.1 (zcc X) (zml X) (zrt X) :: GW) B.pre
  have hl := lv_entry av (n := zml X) hlen
  rw [lg_entry_eq]
  have hcz : zC Γ X d h o.2 p l (headSpec (Cond.code X.1 (zcc X) (zml X) (zrt X) :: GW) { frames := d, cells := hS o.2 - hS h, slots := hN o.2 - hN h, locals := 40 * d }).room s m av.toArray meth c := by
    refine ⟨B.exec, B.bytes, B.returns, hml, findClass_of_methodNamed B.named, fun hn9 => (name_of_methodNamed B.named B.method).1.trans hn9, fun w hw => hts0 w (List.mem_cons_of_mem _ hw), B.notSynchronized, hKK, hl9, Nat.le_refl _, Nat.le_refl _, Nat.le_refl _, Nat.le_refl _, hRp, ?_, kk.1⟩
    rw [hhh]
    exact List.eq_nil_iff_forall_not_mem.mpr hno
  have key := kk.2 zle.rf p l e _ s m av.toArray below meth c s.heap [] _ hcz hRp va_S.rf hl
  rw [Nat.sub_self, Nat.sub_self] at key
  exact key
end ZCALL2

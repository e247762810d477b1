/-! ===== z: inherited, super and nest calls ===== -/
section ZCALLS
variable {Γ : zG} {X : zX} {d : Nat} {h0 : zH} {o : zR × zH} {pc : Nat} {lv : List (Nat × Value)} {st : List Value} {h : zH}
theorem gw_goodIn {w5 : Cond} (h5 : w5 ∈ GW) : GoodIn GW (w5 :: GW) := fun w hw => ⟨(List.mem_cons.mp hw).elim (fun e => by rw [e]; exact h5) id, good_of_word (gw_good ((List.mem_cons.mp hw).elim (fun e => by rw [e]; exact h5) id))⟩
theorem zlen_of {x : MethodName} {n : Nat} (h2 : (parseMethodDescriptor x.desc).map (fun d => d.parameters.length) = some n) : ∀ sig, parseMethodDescriptor x.desc = some sig → n = sig.parameters.length := fun sig h => by
  rw [h] at h2
  exact (Option.some.inj h2).symm
/-- a private method of a class above: what it selects -/
theorem z_selP {C : String} {y : MethodName} {s : State} {args : Array Value} {n : Nat} (hy : y.cls ≠ "java/lang/invoke/MethodHandle" ∧ y.cls ≠ "java/lang/invoke/VarHandle")
    (hins : (Cond.instantiable C n).before args s = true) (hpriv : (Cond.privateMethod y).before args s = true) (hinst : (Cond.instanceMethod y).before args s = true) {z : MethodName} (hz : z.cls = y.cls) (hs0 : (Cond.selects C z z).before args s = true) : (Cond.selects C y y).before args s = true := by
  obtain ⟨c, k, hc, hk, -, hniab, -, -⟩ := Cond.instantiable_spec hins
  obtain ⟨mk, methM, hnamed, hmethM, -, -⟩ := Cond.instanceMethod_spec hinst
  obtain ⟨c2, r2, m2, q1, q2, q3, q4, kP, hkP, hkPi⟩ := Cond.selects_spec hs0
  have hfound : s.methodFound? y.cls y.name y.desc = some mk := State.methodFound?_of_named hnamed hy
  have hsel : selectMethod {} s.vm c mk = .method mk := selectMethod_private hmethM (Cond.privateMethod_at hpriv mk methM hnamed hmethM)
  simp only [Cond.before, Cond.holds, Cond.value, hc, hfound, hnamed, hsel]
  have e9 : m2.cls = mk.cls := Option.some.inj ((findClass_of_methodNamed q3).symm.trans ((congrArg s.vm.findClass hz).trans (findClass_of_methodNamed hnamed)))
  rw [e9] at hkP
  simp [hkP, hkPi]
def zSel (C : String) (x y : MethodName) : Prop := ∀ (args : Array Value) (s : State), (∀ w ∈ GW, w.before args s = true) → (∀ w ∈ lw_tbl, zxw w = true → w.before #[] s = true) → (Cond.selects C x y).before args s = true
theorem zSel_w {C : String} {x y : MethodName} (h : Cond.selects C x y ∈ GW) : zSel C x y := fun _ _ hts _ => hts _ h
theorem zSel_p {C : String} {y : MethodName} {n : Nat} (hy : y.cls ≠ "java/lang/invoke/MethodHandle" ∧ y.cls ≠ "java/lang/invoke/VarHandle") (h1 : Cond.instantiable C n ∈ GW) (h2 : Cond.privateMethod y ∈ lw_tbl) (h3 : Cond.instanceMethod y ∈ GW) {z : MethodName} (hz : z.cls = y.cls) (h4 : Cond.selects C z z ∈ GW) : zSel C y y := fun _ _ hts hx => z_selP hy (hts _ h1) (va_any rfl (hx _ h2 rfl)) (hts _ h3) hz (hts _ h4)
def zLU (own : String) (index : Nat) (C : String) (x : MethodName) (Y : zX) (n : Nat) : Prop := zhh Y = [] ∧ Cond.methodLink own index x ∈ GW ∧ Cond.sameMethod x.cls x.cls x.name x.desc ∈ GW ∧ Cond.instanceMethod Y.1 ∈ GW ∧ Cond.initialized Y.1.cls ∈ GW ∧ Cond.code Y.1 (zcc Y) (zml Y) (zrt Y) ∈ GW ∧ (Cond.instanceMethod x ∈ GW ∧ ∃ b m r, Cond.code x b m r ∈ GW) ∧ zSel C x Y.1 ∧ (x.cls ≠ "java/lang/invoke/MethodHandle" ∧ x.cls ≠ "java/lang/invoke/VarHandle" ∧ (parseMethodDescriptor x.desc).map (fun d => d.parameters.length) = some n) ∧ zml Y ≤ 21
def zLSU (own : String) (index : Nat) (Y : zX) (n : Nat) : Prop := zhh Y = [] ∧ Cond.methodLink own index Y.1 ∈ GW ∧ Cond.sameMethod Y.1.cls Y.1.cls Y.1.name Y.1.desc ∈ GW ∧ Cond.superclass own Y.1.cls ∈ GW ∧ Cond.instanceMethod Y.1 ∈ GW ∧ Cond.initialized Y.1.cls ∈ GW ∧ Cond.code Y.1 (zcc Y) (zml Y) (zrt Y) ∈ GW ∧ (Y.1.name ≠ "<init>" ∧ (parseMethodDescriptor Y.1.desc).map (fun d => d.parameters.length) = some n) ∧ zml Y ≤ 21
def zLSN (own : String) (index : Nat) (Y : zX) (n : Nat) : Prop := zhh Y = [] ∧ Cond.methodLinkNest own index Y.1 RL ∈ lw_tbl ∧ Cond.static Y.1 ∈ GW ∧ Cond.initialized Y.1.cls ∈ GW ∧ Cond.code Y.1 (zcc Y) (zml Y) (zrt Y) ∈ GW ∧ (Y.1.cls ≠ "java/lang/invoke/MethodHandle" ∧ Y.1.cls ≠ "java/lang/invoke/VarHandle" ∧ (parseMethodDescriptor Y.1.desc).map (fun d => d.parameters.length) = some n) ∧ zml Y ≤ 21
def zLIN (own : String) (index : Nat) (Y : zX) (n : Nat) : Prop := zhh Y = [] ∧ Cond.methodLinkNest own index Y.1 RL ∈ lw_tbl ∧ Cond.instanceMethod Y.1 ∈ GW ∧ Cond.initialized Y.1.cls ∈ GW ∧ Cond.code Y.1 (zcc Y) (zml Y) (zrt Y) ∈ GW ∧ zrt Y = none ∧ Y.1.name = "<init>" ∧ (Y.1.cls ≠ "java/lang/invoke/MethodHandle" ∧ Y.1.cls ≠ "java/lang/invoke/VarHandle" ∧ (parseMethodDescriptor Y.1.desc).map (fun d => d.parameters.length) = some n) ∧ zml Y ≤ 21
theorem z_callU {index n b d' ci N : Nat} {CC : String} {x : MethodName} {T : u_T} {fs : List Value} {Y : zX} {r : zR} {h1 : zH} {As rest : List Value} (hd : decode (zcc X) pc = .ok (.invokevirtual index, 3)) (hL : zLU X.1.cls index CC x Y n) (hci : vwCl[ci]? = some (CC, T, N)) (hb : hM h b = some (.inr (ci, fs))) (hMt : Zm Γ Y d' (.ref b :: As) h (r, h1)) (hdd : d' + 1 ≤ d) (hn : As.length = n) (hst0 : st = As.reverse ++ .ref b :: rest) (hst : (rest.map fun v => v.category).sum ≤ 8)
    (kk : ∀ v : Option Value, r = .inl v → Z Γ X d h0 o (pc + 3) lv (v.toList ++ rest) h1) (kx : ∀ k : Nat, r = .inr k → Zx Γ X d h0 o pc lv rest k h1) : Z Γ X d h0 o pc lv st h := by
  obtain ⟨hhh, w1, w2, w3, w4, w5, ⟨w6, cb, cm, cr, w7⟩, w8, ⟨hx1, hx2, hdsc⟩, hml21⟩ := hL
  have hle2 : zle h1 o.2 := by
    cases r with
    | inl v => exact (kk v rfl).1
    | inr k => exact (kx k rfl).1
  refine ⟨zle.tr hMt.1 hle2, fun hle p l e R s m args below meth c H locs ls C hRp hSv hl => ?_⟩
  obtain ⟨hx, hb0, hrt, hml, hown, hname, hts, hlocks, hKK, hl9, hR1, hR2, hR3, hR4, hR0, htab, hzle⟩ := id C
  have hMl := hMt.2 l hl9
  rw [if_pos hhh] at hMl
  have hle1 : zle h h1 := hMt.1
  obtain ⟨hA, rr, g0, cellB, g1, g2, g3, g4⟩ := hRp.o hb hci
  have hrr : rr = (CC, T, N) := Option.some.inj (g0.symm.trans hci)
  subst hrr
  have hcls := (hKK.1.1 ci _ hci).2
  subst hst0
  obtain ⟨g5, g6⟩ := hle1
  obtain ⟨g7, g8⟩ := hle
  obtain ⟨g9, g10⟩ := hle2
  refine z_back (av := (Value.ref b :: As).toArray) ⟨g5, g6⟩ ⟨g7, g8⟩ C hSv hl (vx_runU (owner := x.cls) (C := CC) (x := x) (bytes := zcc Y) (maxL := zml Y) (ret := zrt Y) (As := As) (rest := rest) ⟨hx, hb0, hml, hown, hts⟩ hMl ⟨⟨rfl, rfl, by show d' + 1 ≤ R.frames; omega, by show 8 + (zml Y + 11) + 40 * d' ≤ R.locals; omega, pay_in hts (gw_goodIn w5), List.mem_cons_self⟩, hts _ w5, hts _ w4, ⟨hx1, hx2⟩, zlen_of hdsc, hts _ w1, hts _ w2, va_Decl.of (hts _ w6) (hts _ w7), w8 _ _ hts hKK.2.2.2.2.2.2.2.2.2.2.1, hts _ w3⟩ ⟨z_blind, ⟨cellB, g1, by rw [g3]; rfl, by rw [g2]; exact hcls.1⟩, fun U hU hW => ⟨rfl, by rw [hU]; exact hRp, ?_⟩⟩ rfl hn hl.1 rfl (lv_room hst) hd ⟨by show hS h - hS h0 + (hS h1 - hS h) ≤ R.cells; omega, by show hN h - hN h0 + (hN h1 - hN h) ≤ R.slots; omega⟩) kk kx
  exact zKK.warm hW (by rw [hU]; exact hSv.1) (fun q h1 h2 => by rw [hU]; exact hSv.2.1 q h1 h2) hKK
theorem z_callSU {index n b d' ci N : Nat} {CC : String} {T : u_T} {fs : List Value} {Y : zX} {r : zR} {h1 : zH} {As rest : List Value} (hd : decode (zcc X) pc = .ok (.invokespecial index, 3)) (hL : zLSU X.1.cls index Y n) (hci : vwCl[ci]? = some (CC, T, N)) (hb : hM h b = some (.inr (ci, fs))) (hMt : Zm Γ Y d' (.ref b :: As) h (r, h1)) (hdd : d' + 1 ≤ d) (hn : As.length = n) (hst0 : st = As.reverse ++ .ref b :: rest) (hst : (rest.map fun v => v.category).sum ≤ 8)
    (kk : ∀ v : Option Value, r = .inl v → Z Γ X d h0 o (pc + 3) lv (v.toList ++ rest) h1) (kx : ∀ k : Nat, r = .inr k → Zx Γ X d h0 o pc lv rest k h1) : Z Γ X d h0 o pc lv st h := by
  obtain ⟨hhh, w1, w2, w3, w6, w4, w5, ⟨hx1, hdsc⟩, hml21⟩ := hL
  have hle2 : zle h1 o.2 := by
    cases r with
    | inl v => exact (kk v rfl).1
    | inr k => exact (kx k rfl).1
  refine ⟨zle.tr hMt.1 hle2, fun hle p l e R s m args below meth c H locs ls C hRp hSv hl => ?_⟩
  obtain ⟨hx, hb0, hrt, hml, hown, hname, hts, hlocks, hKK, hl9, hR1, hR2, hR3, hR4, hR0, htab, hzle⟩ := id C
  have hMl := hMt.2 l hl9
  rw [if_pos hhh] at hMl
  have hle1 : zle h h1 := hMt.1
  obtain ⟨hA, rr, g0, cellB, g1, g2, g3, g4⟩ := hRp.o hb hci
  have hrr : rr = (CC, T, N) := Option.some.inj (g0.symm.trans hci)
  subst hrr
  have hcls := (hKK.1.1 ci _ hci).2
  subst hst0
  obtain ⟨g5, g6⟩ := hle1
  obtain ⟨g7, g8⟩ := hle
  obtain ⟨g9, g10⟩ := hle2
  refine z_back (av := (Value.ref b :: As).toArray) ⟨g5, g6⟩ ⟨g7, g8⟩ C hSv hl (vx_runSU (C := CC) (cC := Γ.1.1 ci) (bytes := zcc Y) (maxL := zml Y) (ret := zrt Y) (As := As) (rest := rest) hcls ⟨hx, hb0, hml, hown, hts⟩ hMl ⟨⟨rfl, rfl, by show d' + 1 ≤ R.frames; omega, by show 8 + (zml Y + 11) + 40 * d' ≤ R.locals; omega, pay_in hts (gw_goodIn w5), List.mem_cons_self⟩, hts _ w1, hts _ w2, hts _ w3, hts _ w6, hts _ w4, hts _ w5, hx1, zlen_of hdsc⟩ ⟨z_blind, ⟨cellB, g1, by rw [g3]; rfl, by rw [g2]; exact hcls.1⟩, fun U hU hW => ⟨rfl, by rw [hU]; exact hRp, ?_⟩⟩ rfl hn hl.1 rfl (lv_room hst) hd ⟨by show hS h - hS h0 + (hS h1 - hS h) ≤ R.cells; omega, by show hN h - hN h0 + (hN h1 - hN h) ≤ R.slots; omega⟩) kk kx
  exact zKK.warm hW (by rw [hU]; exact hSv.1) (fun q h1 h2 => by rw [hU]; exact hSv.2.1 q h1 h2) hKK
theorem z_callSN {index n d' : Nat} {Y : zX} {r : zR} {h1 : zH} {As rest : List Value} (hd : decode (zcc X) pc = .ok (.invokestatic index, 3)) (hL : zLSN X.1.cls index Y n) (hMt : Zm Γ Y d' As h (r, h1)) (hdd : d' + 1 ≤ d) (hn : As.length = n) (hst0 : st = As.reverse ++ rest) (hst : (rest.map fun v => v.category).sum ≤ 8)
    (kk : ∀ v : Option Value, r = .inl v → Z Γ X d h0 o (pc + 3) lv (v.toList ++ rest) h1) (kx : ∀ k : Nat, r = .inr k → Zx Γ X d h0 o pc lv rest k h1) : Z Γ X d h0 o pc lv st h := by
  obtain ⟨hhh, w1, w2, w4, w5, ⟨hx1, hx2, hdsc⟩, hml21⟩ := hL
  have hle2 : zle h1 o.2 := by
    cases r with
    | inl v => exact (kk v rfl).1
    | inr k => exact (kx k rfl).1
  refine ⟨zle.tr hMt.1 hle2, fun hle p l e R s m args below meth c H locs ls C hRp hSv hl => ?_⟩
  obtain ⟨hx, hb0, hrt, hml, hown, hname, hts, hlocks, hKK, hl9, hR1, hR2, hR3, hR4, hR0, htab, hzle⟩ := id C
  have hMl := hMt.2 l hl9
  rw [if_pos hhh] at hMl
  have hle1 : zle h h1 := hMt.1
  subst hst0
  obtain ⟨g5, g6⟩ := hle1
  obtain ⟨g7, g8⟩ := hle
  obtain ⟨g9, g10⟩ := hle2
  have hl1 : (Cond.methodLinkNest X.1.cls index Y.1 RL).before args s = true := va_Nw.use rfl (hKK.2.2.2.2.2.2.2.2.2.2.1 _ w1 rfl)
  refine z_back (av := As.toArray) ⟨g5, g6⟩ ⟨g7, g8⟩ C hSv hl (vx_runSN (host := RL) (bytes := zcc Y) (maxL := zml Y) (ret := zrt Y) (As := As) (rest := rest) ⟨hx, hb0, hml, hown, hts⟩ hMl ⟨⟨⟨rfl, rfl, by show d' + 1 ≤ R.frames; omega, by show 8 + (zml Y + 11) + 40 * d' ≤ R.locals; omega, pay_in hts (gw_goodIn w5), List.mem_cons_self⟩, hts _ w5, hts _ w4, ⟨hx1, hx2⟩, zlen_of hdsc, hl1⟩, hts _ w2, trivial⟩ ⟨z_blind, fun U hU hW => ⟨rfl, by rw [hU]; exact hRp, ?_⟩⟩ rfl hn hl.1 rfl (lv_room hst) hd ⟨by show hS h - hS h0 + (hS h1 - hS h) ≤ R.cells; omega, by show hN h - hN h0 + (hN h1 - hN h) ≤ R.slots; omega⟩) kk kx
  exact zKK.warm hW (by rw [hU]; exact hSv.1) (fun q h1 h2 => by rw [hU]; exact hSv.2.1 q h1 h2) hKK
theorem z_callIN {index n b d' : Nat} {Y : zX} {r : zR} {h1 : zH} {As rest : List Value} (hd : decode (zcc X) pc = .ok (.invokespecial index, 3)) (hL : zLIN X.1.cls index Y n) (hMt : Zm Γ Y d' (.ref b :: As) h (r, h1)) (hdd : d' + 1 ≤ d) (hn : As.length = n) (hst0 : st = As.reverse ++ .ref b :: rest) (hst : (rest.map fun v => v.category).sum ≤ 8)
    (kk : ∀ v : Option Value, r = .inl v → Z Γ X d h0 o (pc + 3) lv (v.toList ++ rest) h1) (kx : ∀ k : Nat, r = .inr k → Zx Γ X d h0 o pc lv rest k h1) : Z Γ X d h0 o pc lv st h := by
  obtain ⟨hhh, w1, w2, w4, w5, hrtn, hnm, ⟨hx1, hx2, hdsc⟩, hml21⟩ := hL
  have hle2 : zle h1 o.2 := by
    cases r with
    | inl v => exact (kk v rfl).1
    | inr k => exact (kx k rfl).1
  refine ⟨zle.tr hMt.1 hle2, fun hle p l e R s m args below meth c H locs ls C hRp hSv hl => ?_⟩
  obtain ⟨hx, hb0, hrt, hml, hown, hname, hts, hlocks, hKK, hl9, hR1, hR2, hR3, hR4, hR0, htab, hzle⟩ := id C
  have hMl := hMt.2 l hl9
  rw [if_pos hhh, hrtn] at hMl
  have hle1 : zle h h1 := hMt.1
  subst hst0
  obtain ⟨g5, g6⟩ := hle1
  obtain ⟨g7, g8⟩ := hle
  obtain ⟨g9, g10⟩ := hle2
  have hl1 : (Cond.methodLinkNest X.1.cls index Y.1 RL).before args s = true := va_Nw.use rfl (hKK.2.2.2.2.2.2.2.2.2.2.1 _ w1 rfl)
  rw [hrtn] at w5
  refine z_back (av := (Value.ref b :: As).toArray) ⟨g5, g6⟩ ⟨g7, g8⟩ C hSv hl (vx_runIN (host := RL) (bytes := zcc Y) (maxL := zml Y) (As := As) (rest := rest) ⟨hx, hb0, hml, hown, hts⟩ hMl ⟨⟨⟨rfl, rfl, by show d' + 1 ≤ R.frames; omega, by show 8 + (zml Y + 11) + 40 * d' ≤ R.locals; omega, pay_in hts (gw_goodIn w5), List.mem_cons_self⟩, hts _ w5, hts _ w4, ⟨hx1, hx2⟩, zlen_of hdsc, hl1⟩, hnm, hts _ w2⟩ ⟨z_blind, fun U hU hW => ⟨rfl, by rw [hU]; exact hRp, ?_⟩⟩ rfl hn hl.1 rfl (lv_room hst) hd ⟨by show hS h - hS h0 + (hS h1 - hS h) ≤ R.cells; omega, by show hN h - hN h0 + (hN h1 - hN h) ≤ R.slots; omega⟩) kk kx
  exact zKK.warm hW (by rw [hU]; exact hSv.1) (fun q h1 h2 => by rw [hU]; exact hSv.2.1 q h1 h2) hKK
variable {β : Type} {w : β}
theorem z_cU_i {index n b d' ci N : Nat} {CC : String} {x : MethodName} {T : u_T} {Y : zX} {F : Option (Int32 × zH)} {K : Int32 × zH → Option β} {As rest : List Value} (hd : decode (zcc X) pc = .ok (.invokevirtual index, 3)) (hL : zLU X.1.cls index CC x Y n) (hci : vwCl[ci]? = some (CC, T, N)) (hf : (onO ci b h F).bind K = some w) (hMt : ∀ w1 : Int32 × zH, F = some w1 → Zm Γ Y d' (.ref b :: As) h (zoI w1)) (hdd : d' + 1 ≤ d) (hn : As.length = n) (hst0 : st = As.reverse ++ .ref b :: rest) (hst : (rest.map fun v => v.category).sum ≤ 8) (kk : ∀ y : Int32 × zH, K y = some w → Z Γ X d h0 o (pc + 3) lv (.int y.1 :: rest) y.2) : Z Γ X d h0 o pc lv st h := by
  obtain ⟨y, e1, e2⟩ := Option.bind_eq_some_iff.mp hf
  obtain ⟨⟨fs, hb⟩, e1⟩ := onO_of e1
  exact z_callU hd hL hci hb (hMt y e1) hdd hn hst0 hst (fun v hv => by cases hv; exact kk y e2) (fun k hk => by cases hk)
theorem z_cU_a {index n b d' ci N : Nat} {CC : String} {x : MethodName} {T : u_T} {Y : zX} {F : Option (Nat × zH)} {K : Nat × zH → Option β} {As rest : List Value} (hd : decode (zcc X) pc = .ok (.invokevirtual index, 3)) (hL : zLU X.1.cls index CC x Y n) (hci : vwCl[ci]? = some (CC, T, N)) (hf : (onO ci b h F).bind K = some w) (hMt : ∀ w1 : Nat × zH, F = some w1 → Zm Γ Y d' (.ref b :: As) h (zoA w1)) (hdd : d' + 1 ≤ d) (hn : As.length = n) (hst0 : st = As.reverse ++ .ref b :: rest) (hst : (rest.map fun v => v.category).sum ≤ 8) (kk : ∀ y : Nat × zH, K y = some w → Z Γ X d h0 o (pc + 3) lv (.ref y.1 :: rest) y.2) : Z Γ X d h0 o pc lv st h := by
  obtain ⟨y, e1, e2⟩ := Option.bind_eq_some_iff.mp hf
  obtain ⟨⟨fs, hb⟩, e1⟩ := onO_of e1
  exact z_callU hd hL hci hb (hMt y e1) hdd hn hst0 hst (fun v hv => by cases hv; exact kk y e2) (fun k hk => by cases hk)
theorem z_cU_v {index n b d' ci N : Nat} {CC : String} {x : MethodName} {T : u_T} {Y : zX} {F : Option (zH)} {K : zH → Option β} {As rest : List Value} (hd : decode (zcc X) pc = .ok (.invokevirtual index, 3)) (hL : zLU X.1.cls index CC x Y n) (hci : vwCl[ci]? = some (CC, T, N)) (hf : (onO ci b h F).bind K = some w) (hMt : ∀ w1 : zH, F = some w1 → Zm Γ Y d' (.ref b :: As) h (zoV w1)) (hdd : d' + 1 ≤ d) (hn : As.length = n) (hst0 : st = As.reverse ++ .ref b :: rest) (hst : (rest.map fun v => v.category).sum ≤ 8) (kk : ∀ y : zH, K y = some w → Z Γ X d h0 o (pc + 3) lv (rest) y) : Z Γ X d h0 o pc lv st h := by
  obtain ⟨y, e1, e2⟩ := Option.bind_eq_some_iff.mp hf
  obtain ⟨⟨fs, hb⟩, e1⟩ := onO_of e1
  exact z_callU hd hL hci hb (hMt y e1) hdd hn hst0 hst (fun v hv => by cases hv; exact kk y e2) (fun k hk => by cases hk)
theorem z_cSU_a {index n b d' ci N : Nat} {CC : String} {T : u_T} {Y : zX} {F : Option (Nat × zH)} {K : Nat × zH → Option β} {As rest : List Value} (hd : decode (zcc X) pc = .ok (.invokespecial index, 3)) (hL : zLSU X.1.cls index Y n) (hci : vwCl[ci]? = some (CC, T, N)) (hf : (onO ci b h F).bind K = some w) (hMt : ∀ w1 : Nat × zH, F = some w1 → Zm Γ Y d' (.ref b :: As) h (zoA w1)) (hdd : d' + 1 ≤ d) (hn : As.length = n) (hst0 : st = As.reverse ++ .ref b :: rest) (hst : (rest.map fun v => v.category).sum ≤ 8) (kk : ∀ y : Nat × zH, K y = some w → Z Γ X d h0 o (pc + 3) lv (.ref y.1 :: rest) y.2) : Z Γ X d h0 o pc lv st h := by
  obtain ⟨y, e1, e2⟩ := Option.bind_eq_some_iff.mp hf
  obtain ⟨⟨fs, hb⟩, e1⟩ := onO_of e1
  exact z_callSU hd hL hci hb (hMt y e1) hdd hn hst0 hst (fun v hv => by cases hv; exact kk y e2) (fun k hk => by cases hk)
theorem z_cSU_i {index n b d' ci N : Nat} {CC : String} {T : u_T} {Y : zX} {F : Option (Int32 × zH)} {K : Int32 × zH → Option β} {As rest : List Value} (hd : decode (zcc X) pc = .ok (.invokespecial index, 3)) (hL : zLSU X.1.cls index Y n) (hci : vwCl[ci]? = some (CC, T, N)) (hf : (onO ci b h F).bind K = some w) (hMt : ∀ w1 : Int32 × zH, F = some w1 → Zm Γ Y d' (.ref b :: As) h (zoI w1)) (hdd : d' + 1 ≤ d) (hn : As.length = n) (hst0 : st = As.reverse ++ .ref b :: rest) (hst : (rest.map fun v => v.category).sum ≤ 8) (kk : ∀ y : Int32 × zH, K y = some w → Z Γ X d h0 o (pc + 3) lv (.int y.1 :: rest) y.2) : Z Γ X d h0 o pc lv st h := by
  obtain ⟨y, e1, e2⟩ := Option.bind_eq_some_iff.mp hf
  obtain ⟨⟨fs, hb⟩, e1⟩ := onO_of e1
  exact z_callSU hd hL hci hb (hMt y e1) hdd hn hst0 hst (fun v hv => by cases hv; exact kk y e2) (fun k hk => by cases hk)
theorem z_cSN_i {index n d' : Nat} {Y : zX} {F : Option (Int32 × zH)} {K : Int32 × zH → Option β} {As rest : List Value} (hd : decode (zcc X) pc = .ok (.invokestatic index, 3)) (hL : zLSN X.1.cls index Y n) (hf : F.bind K = some w) (hMt : ∀ w1 : Int32 × zH, F = some w1 → Zm Γ Y d' As h (zoI w1)) (hdd : d' + 1 ≤ d) (hn : As.length = n) (hst0 : st = As.reverse ++ rest) (hst : (rest.map fun v => v.category).sum ≤ 8) (kk : ∀ y : Int32 × zH, K y = some w → Z Γ X d h0 o (pc + 3) lv (.int y.1 :: rest) y.2) : Z Γ X d h0 o pc lv st h := by
  obtain ⟨y, e1, e2⟩ := Option.bind_eq_some_iff.mp hf
  exact z_callSN hd hL (hMt y e1) hdd hn hst0 hst (fun v hv => by cases hv; exact kk y e2) (fun k hk => by cases hk)
theorem z_cSN_a {index n d' : Nat} {Y : zX} {F : Option (Nat × zH)} {K : Nat × zH → Option β} {As rest : List Value} (hd : decode (zcc X) pc = .ok (.invokestatic index, 3)) (hL : zLSN X.1.cls index Y n) (hf : F.bind K = some w) (hMt : ∀ w1 : Nat × zH, F = some w1 → Zm Γ Y d' As h (zoA w1)) (hdd : d' + 1 ≤ d) (hn : As.length = n) (hst0 : st = As.reverse ++ rest) (hst : (rest.map fun v => v.category).sum ≤ 8) (kk : ∀ y : Nat × zH, K y = some w → Z Γ X d h0 o (pc + 3) lv (.ref y.1 :: rest) y.2) : Z Γ X d h0 o pc lv st h := by
  obtain ⟨y, e1, e2⟩ := Option.bind_eq_some_iff.mp hf
  exact z_callSN hd hL (hMt y e1) hdd hn hst0 hst (fun v hv => by cases hv; exact kk y e2) (fun k hk => by cases hk)
theorem z_cIN_v {index n b d' : Nat} {Y : zX} {F : Option (zH)} {K : zH → Option β} {As rest : List Value} (hd : decode (zcc X) pc = .ok (.invokespecial index, 3)) (hL : zLIN X.1.cls index Y n) (hf : F.bind K = some w) (hMt : ∀ w1 : zH, F = some w1 → Zm Γ Y d' (.ref b :: As) h (zoV w1)) (hdd : d' + 1 ≤ d) (hn : As.length = n) (hst0 : st = As.reverse ++ .ref b :: rest) (hst : (rest.map fun v => v.category).sum ≤ 8) (kk : ∀ y : zH, K y = some w → Z Γ X d h0 o (pc + 3) lv (rest) y) : Z Γ X d h0 o pc lv st h := by
  obtain ⟨y, e1, e2⟩ := Option.bind_eq_some_iff.mp hf
  exact z_callIN hd hL (hMt y e1) hdd hn hst0 hst (fun v hv => by cases hv; exact kk y e2) (fun k hk => by cases hk)
theorem z_cS_ti {index n d' : Nat} {Y : zX} {F : Option ((Int32 ⊕ Nat) × zH)} {A : (Int32 ⊕ Nat) × zH → Int32 → Option β} {B : (Int32 ⊕ Nat) × zH → Nat → Option β} {As rest : List Value} (hd : decode (zcc X) pc = .ok (.invokestatic index, 3)) (hL : zLS X.1.cls index Y n) (hf : F.bind (fun y => zth y.1 (A y) (B y)) = some w) (hMt : ∀ w1 : (Int32 ⊕ Nat) × zH, F = some w1 → Zm Γ Y d' As h (zoTI w1)) (hdd : d' + 1 ≤ d) (hn : As.length = n) (hst0 : st = As.reverse ++ rest) (hst : (rest.map fun v => v.category).sum ≤ 8) (kk : ∀ (y : (Int32 ⊕ Nat) × zH) (x : Int32), A y x = some w → Z Γ X d h0 o (pc + 3) lv (.int x :: rest) y.2) (kx : ∀ (y : (Int32 ⊕ Nat) × zH) (k : Nat), B y k = some w → Zx Γ X d h0 o pc lv rest k y.2) : Z Γ X d h0 o pc lv st h := by
  obtain ⟨y, e1, e2⟩ := Option.bind_eq_some_iff.mp hf
  obtain ⟨r, h1⟩ := y
  cases r with
  | inl x => exact z_callS hd hL (hMt _ e1) hdd hn hst0 hst (fun v hv => by cases hv; exact kk _ x e2) (fun k hk => by cases hk)
  | inr k9 => exact z_callS hd hL (hMt _ e1) hdd hn hst0 hst (fun v hv => by cases hv) (fun k hk => by cases hk; exact kx _ _ e2)
theorem z_cS_n {index n d' : Nat} {Y : zX} {F : Option (Option Nat × zH)} {A : Option Nat × zH → Option β} {B : Option Nat × zH → Nat → Option β} {As rest : List Value} (hd : decode (zcc X) pc = .ok (.invokestatic index, 3)) (hL : zLS X.1.cls index Y n) (hf : F.bind (fun y => znl y.1 (A y) (B y)) = some w) (hMt : ∀ w1 : Option Nat × zH, F = some w1 → Zm Γ Y d' As h (zoN w1)) (hdd : d' + 1 ≤ d) (hn : As.length = n) (hst0 : st = As.reverse ++ rest) (hst : (rest.map fun v => v.category).sum ≤ 8) (kn : ∀ y : Option Nat × zH, A y = some w → Z Γ X d h0 o (pc + 3) lv (.null :: rest) y.2) (kk : ∀ (y : Option Nat × zH) (x : Nat), B y x = some w → Z Γ X d h0 o (pc + 3) lv (.ref x :: rest) y.2) : Z Γ X d h0 o pc lv st h := by
  obtain ⟨y, e1, e2⟩ := Option.bind_eq_some_iff.mp hf
  obtain ⟨r, h1⟩ := y
  cases r with
  | none => exact z_callS hd hL (hMt _ e1) hdd hn hst0 hst (fun v hv => by cases hv; exact kn _ e2) (fun k hk => by cases hk)
  | some x => exact z_callS hd hL (hMt _ e1) hdd hn hst0 hst (fun v hv => by cases hv; exact kk _ x e2) (fun k hk => by cases hk)
end ZCALLS

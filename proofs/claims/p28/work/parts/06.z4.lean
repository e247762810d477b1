section ZSPEC
variable {Γ : zG} {X : zX} {d : Nat} {h0 : zH} {o : zR × zH} {pc : Nat} {lv : List (Nat × Value)} {st : List Value} {h : zH}
/-! ===== z: handlers ===== -/
/-- caught: the entry x of the table takes it, the ones ahead don't -/
theorem zx_catch {k : Nat} (hk : k < 4) (pre : List (Nat × Nat × Nat × Nat)) (x : Nat × Nat × Nat × Nat) (suf : List (Nat × Nat × Nat × Nat)) (hsplit : zhh X = pre ++ x :: suf)
    (hpass : ∀ z ∈ pre, z.2.2.2 ≠ 0 ∧ ∃ j : Nat, j < 4 ∧ k ≠ j ∧ Cond.classLink X.1.cls z.2.2.2 (zexn j) ∈ GW) (hx : x.1 ≤ pc ∧ pc < x.2.1) (hx0 : x.2.2.2 ≠ 0) (hlink : Cond.classLink X.1.cls x.2.2.2 (zexn k) ∈ GW) (hcast : Cond.castable (zexn k) (zexn k) ∈ lw_tbl)
    (kk : ∀ q : Nat, Z Γ X d h0 o x.2.2.1 lv [.ref q] h) : Zx Γ X d h0 o pc lv st k h := by
  refine ⟨(kk 0).1, fun hle p l e R s m args below meth c H locs ls q ce C hRp hSv hl hce hcv hcl => ?_⟩
  have hts := C.2.2.2.2.2.2.1
  have hKK := C.2.2.2.2.2.2.2.2.1
  have htab := C.2.2.2.2.2.2.2.2.2.2.2.2.2.2.2.1
  have hsp : c.exceptionTable.toList = pre.map (fun q => ⟨q.1, q.2.1, q.2.2.1, q.2.2.2⟩) ++ (⟨x.1, x.2.1, x.2.2.1, x.2.2.2⟩ : ExceptionTableEntry) :: suf.map (fun q => ⟨q.1, q.2.1, q.2.2.1, q.2.2.2⟩) := by
    rw [htab, hsplit]
    simp [tableOf]
  refine vx_catch (name := zexn k) (E := zexn k) C.2.2.2.2.1 _ _ _ hsp (fun z hz => Or.inr ?_) (by simp [covers, hx.1, hx.2]) hx0 (hts _ hlink) (va_any rfl (hKK.2.2.2.2.2.2.2.2.2.2.1 _ hcast rfl)) hce hcv hcl ((kk q).2 hle p l e R s m args below meth c H locs ls C hRp hSv hl)
  obtain ⟨y, hy, rfl⟩ := List.mem_map.mp hz
  obtain ⟨g1, j, g2, g3, g4⟩ := hpass y hy
  exact ⟨g1, zexn j, hts _ g4, hKK.2.2.2.2.2.2.2.2.2.2.2.1 k j hk g2 g3⟩
/-- a body with handlers -/
theorem z_methH {av : List Value} (hhh : zhh X ≠ []) (hpl : plainName X.1.cls = true) (hlen : (lg_sl av).length ≤ zml X) (kk : Z Γ X d h o 0 (lv_args 0 av) [] h) : Zm Γ X d av h o := by
  refine ⟨kk.1, fun l hl9 => ?_⟩
  rw [if_neg hhh]
  refine vx_ofWH (cc := zcc X) (maxL := zml X) (ret := zrt X) (hh := zhh X) hpl rfl ?_
  intro p e s m args below meth c s₁ B hml hv
  obtain ⟨rfl, hRp, hKK⟩ := hv
  have hts0 : ∀ w ∈ (Cond.codeWith X.1 (zcc X) (zml X) (zrt X) (zhh X) :: GW), w.before av.toArray s = true := atoms_spec (ws := Cond.codeWith X.1 (zcc X) (zml X) (zrt X) (zhh X) :: GW) B.pre
  have hl := lv_entry av (n := zml X) hlen
  rw [lg_entry_eq]
  have hcz : zC Γ X d h o.2 p l (headSpec (Cond.codeWith X.1 (zcc X) (zml X) (zrt X) (zhh X) :: GW) { frames := d, cells := hS o.2 - hS h, slots := hN o.2 - hN h, locals := 40 * d }).room s m av.toArray meth c := by
    refine ⟨B.exec, B.bytes, B.returns, hml, findClass_of_methodNamed B.named, fun hn9 => (name_of_methodNamed B.named B.method).1.trans hn9, fun w hw => hts0 w (List.mem_cons_of_mem _ hw), B.notSynchronized, hKK, hl9, Nat.le_refl _, Nat.le_refl _, Nat.le_refl _, Nat.le_refl _, hRp, ?_, kk.1⟩
    exact vx_table (x := X.1) (y := X.1) B (hts0 _ List.mem_cons_self)
  have key := kk.2 zle.rf p l e _ s m av.toArray below meth c s.heap [] _ hcz hRp va_S.rf hl
  rw [Nat.sub_self, Nat.sub_self] at key
  exact key
def zLSW (own : String) (index : Nat) (Y : zX) (n : Nat) : Prop := zhh Y ≠ [] ∧ Cond.methodLink own index Y.1 ∈ GW ∧ Cond.static Y.1 ∈ GW ∧ Cond.initialized Y.1.cls ∈ GW ∧ Cond.codeWith Y.1 (zcc Y) (zml Y) (zrt Y) (zhh Y) ∈ GW ∧ (Y.1.cls ≠ "java/lang/invoke/MethodHandle" ∧ Y.1.cls ≠ "java/lang/invoke/VarHandle" ∧ (parseMethodDescriptor Y.1.desc).map (fun d => d.parameters.length) = some n) ∧ zml Y ≤ 21
theorem z_callSW {index n d' : Nat} {Y : zX} {r : zR} {h1 : zH} {As rest : List Value} (hd : decode (zcc X) pc = .ok (.invokestatic index, 3)) (hL : zLSW X.1.cls index Y n) (hMt : Zm Γ Y d' As h (r, h1)) (hdd : d' + 1 ≤ d) (hn : As.length = n) (hst0 : st = As.reverse ++ rest) (hst : (rest.map fun v => v.category).sum ≤ 8)
    (kk : ∀ v : Option Value, r = .inl v → Z Γ X d h0 o (pc + 3) lv (v.toList ++ rest) h1) (kx : ∀ k : Nat, r = .inr k → Zx Γ X d h0 o pc lv rest k h1) : Z Γ X d h0 o pc lv st h := by
  obtain ⟨hhh, w1, w2, w4, w5, hdsc, hml21⟩ := hL
  have hle2 : zle h1 o.2 := by
    cases r with
    | inl v => exact (kk v rfl).1
    | inr k => exact (kx k rfl).1
  refine ⟨zle.tr hMt.1 hle2, fun hle p l e R s m args below meth c H locs ls C hRp hSv hl => ?_⟩
  obtain ⟨hx, hb0, hrt, hml, hown, hname, hts, hlocks, hKK, hl9, hR1, hR2, hR3, hR4, hR0, htab, hzle⟩ := id C
  have hMl := hMt.2 l hl9
  rw [if_neg hhh] at hMl
  have hle1 : zle h h1 := hMt.1
  subst hst0
  obtain ⟨g5, g6⟩ := hle1
  obtain ⟨g7, g8⟩ := hle
  obtain ⟨g9, g10⟩ := hle2
  refine z_back (av := As.toArray) ⟨g5, g6⟩ ⟨g7, g8⟩ C hSv hl (vx_runSX (As := As) (rest := rest) ⟨hx, hb0, hml, hown, hts⟩ hMl (vx_cwSW n hts (z_goodS w1 w2 w4 w5) rfl rfl rfl hdsc ⟨by show d' + 1 ≤ R.frames; omega, by show 8 + (zml Y + 11) + 40 * d' ≤ R.locals; omega⟩) ⟨z_blind, fun U hU hW => ⟨rfl, by rw [hU]; exact hRp, ?_⟩⟩ rfl hn hl.1 rfl (lv_room hst) hd ⟨by show hS h - hS h0 + (hS h1 - hS h) ≤ R.cells; omega, by show hN h - hN h0 + (hN h1 - hN h) ≤ R.slots; omega⟩) kk kx
  exact zKK.warm hW (by rw [hU]; exact hSv.1) (fun q h1 h2 => by rw [hU]; exact hSv.2.1 q h1 h2) hKK
/-! ===== z: constants, statics, the script ===== -/
theorem z_ldcS7 {index i : Nat} (hi : i < 9) (hX : X.1.cls = RX7) (hidx : zsi7 i = index) (hd : decode (zcc X) pc = .ok (.ldc index, 2)) (kk : Z Γ X d h0 o (pc + 2) lv (.ref (zKa Γ i) :: st) h) : Z Γ X d h0 o pc lv st h :=
  ⟨kk.1, fun hle p l e R s m args below meth c H locs ls C hRp hSv hl => va_ldcS C.1 C.2.1 C.2.2.2.2.1 (by rw [hX, ← hidx]; exact (C.2.2.2.2.2.2.2.2.1.2.2.2.2.2.1 i hi)) hd (kk.2 hle p l e R s m args below meth c H locs ls C hRp hSv hl)⟩
theorem z_ldcL {index : Nat} (j i : Nat) (hj : j < 8) (hi : zciL j = i) (hX : X.1.cls = RL) (hidx : zsiL j = index) (hd : decode (zcc X) pc = .ok (.ldc index, 2)) (kk : Z Γ X d h0 o (pc + 2) lv (.ref (zKa Γ i) :: st) h) : Z Γ X d h0 o pc lv st h := by
  subst hi
  exact ⟨kk.1, fun hle p l e R s m args below meth c H locs ls C hRp hSv hl => va_ldcS C.1 C.2.1 C.2.2.2.2.1 (by rw [hX, ← hidx]; exact (C.2.2.2.2.2.2.2.2.1.2.2.2.2.2.2.2.2.2.2.2.2.1 j hj)) hd (kk.2 hle p l e R s m args below meth c H locs ls C hRp hSv hl)⟩
theorem z_ldcN {index : Nat} (j i : Nat) (hj : j < 7) (hi : zciN j = i) (hX : X.1.cls = RX10) (hidx : zsiN j = index) (hd : decode (zcc X) pc = .ok (.ldc index, 2)) (kk : Z Γ X d h0 o (pc + 2) lv (.ref (zKa Γ i) :: st) h) : Z Γ X d h0 o pc lv st h := by
  subst hi
  exact ⟨kk.1, fun hle p l e R s m args below meth c H locs ls C hRp hSv hl => va_ldcS C.1 C.2.1 C.2.2.2.2.1 (by rw [hX, ← hidx]; exact (C.2.2.2.2.2.2.2.2.1.2.2.2.2.2.2.2.2.2.2.2.2.2.1 j hj)) hd (kk.2 hle p l e R s m args below meth c H locs ls C hRp hSv hl)⟩
theorem z_cs {index : Nat} (hd : decode (zcc X) pc = .ok (.getstatic index, 3)) (hlk : Cond.fieldLink X.1.cls index "java/lang/String" "COMPACT_STRINGS" "Z" ∈ GW) (kk : Z Γ X d h0 o (pc + 3) lv (.int 1 :: st) h) : Z Γ X d h0 o pc lv st h :=
  ⟨kk.1, fun hle p l e R s m args below meth c H locs ls C hRp hSv hl => va_gets C.1 C.2.1 C.2.2.2.2.2.2.2.2.1.2.2.2.2.2.2.1 hSv C.2.2.2.2.1 (C.2.2.2.2.2.2.1 _ hlk) (fun _ h => h) hd (kk.2 hle p l e R s m args below meth c H locs ls C hRp hSv hl)⟩
theorem z_sf {index : Nat} (hd : decode (zcc X) pc = .ok (.getstatic index, 3)) (hlk : Cond.fieldLink X.1.cls index "jdk/internal/util/Preconditions" "SIOOBE_FORMATTER" "Ljava/util/function/BiFunction;" ∈ GW) (kk : ∀ v : Value, v = .null ∨ (∃ t : Nat, v = .ref t) → Z Γ X d h0 o (pc + 3) lv (v :: st) h) : Z Γ X d h0 o pc lv st h :=
  ⟨(kk .null (Or.inl rfl)).1, fun hle p l e R s m args below meth c H locs ls C hRp hSv hl => by
    rcases C.2.2.2.2.2.2.2.2.1.2.2.2.2.2.2.2.1 with hz | ⟨t, hz⟩
    · exact va_gets C.1 C.2.1 hz hSv C.2.2.2.2.1 (C.2.2.2.2.2.2.1 _ hlk) (fun _ h => h) hd ((kk .null (Or.inl rfl)).2 hle p l e R s m args below meth c H locs ls C hRp hSv hl)
    · exact va_gets C.1 C.2.1 hz hSv C.2.2.2.2.1 (C.2.2.2.2.2.2.1 _ hlk) (fun _ h => h) hd ((kk (.ref t) (Or.inr ⟨t, rfl⟩)).2 hle p l e R s m args below meth c H locs ls C hRp hSv hl)⟩
theorem z_strC {index i : Nat} (hi : i < 20) (hd : decode (zcc X) pc = .ok (.getfield index, 3)) (hlk : Cond.fieldLink X.1.cls index "java/lang/String" "coder" "B" ∈ GW) (kk : Z Γ X d h0 o (pc + 3) lv (.int 0 :: st) h) : Z Γ X d h0 o pc lv (.ref (zKa Γ i) :: st) h :=
  ⟨kk.1, fun hle p l e R s m args below meth c H locs ls C hRp hSv hl => vk_getf C.1 C.2.1 ((C.2.2.2.2.2.2.2.2.1.2.2.2.2.1).1 i hi).2.1 hSv C.2.2.2.2.1 (C.2.2.2.2.2.2.1 _ hlk) (fun _ h => h) hd (kk.2 hle p l e R s m args below meth c H locs ls C hRp hSv hl)⟩
theorem z_strV {index i : Nat} (hi : i < 20) (hd : decode (zcc X) pc = .ok (.getfield index, 3)) (hlk : Cond.fieldLink X.1.cls index "java/lang/String" "value" "[B" ∈ GW) (kk : Z Γ X d h0 o (pc + 3) lv (.ref (zVa Γ i) :: st) h) : Z Γ X d h0 o pc lv (.ref (zKa Γ i) :: st) h :=
  ⟨kk.1, fun hle p l e R s m args below meth c H locs ls C hRp hSv hl => vk_getf C.1 C.2.1 ((C.2.2.2.2.2.2.2.2.1.2.2.2.2.1).1 i hi).2.2.1 hSv C.2.2.2.2.1 (C.2.2.2.2.2.2.1 _ hlk) (fun _ h => h) hd (kk.2 hle p l e R s m args below meth c H locs ls C hRp hSv hl)⟩
theorem z_strL {i : Nat} (hi : i < 20) (hd : decode (zcc X) pc = .ok (.arraylength, 1)) (kk : Z Γ X d h0 o (pc + 1) lv (.int (Int32.ofNat (zlen.getD i 0)) :: st) h) : Z Γ X d h0 o pc lv (.ref (zVa Γ i) :: st) h :=
  ⟨kk.1, fun hle p l e R s m args below meth c H locs ls C hRp hSv hl => va_tlen C.1 C.2.1 ((C.2.2.2.2.2.2.2.2.1.2.2.2.2.1).1 i hi).2.2.2 hSv rfl hd (kk.2 hle p l e R s m args below meth c H locs ls C hRp hSv hl)⟩
theorem z_strB {i : Nat} {j : Int32} (hi : i < 20) (hj : zix j (zlen.getD i 0)) (hd : decode (zcc X) pc = .ok (.baload, 1)) (kk : Z Γ X d h0 o (pc + 1) lv (.int ((zbyt.getD i []).getD j.toNatClampNeg 0) :: st) h) : Z Γ X d h0 o pc lv (.int j :: .ref (zVa Γ i) :: st) h :=
  ⟨kk.1, fun hle p l e R s m args below meth c H locs ls C hRp hSv hl => va_tb C.1 C.2.1 ((C.2.2.2.2.2.2.2.2.1.2.2.2.2.1).1 i hi).2.2.2 hSv hj.vp rfl hd (kk.2 hle p l e R s m args below meth c H locs ls C hRp hSv hl)⟩
theorem z_sld {i : Int32} {sb L : Nat} {xs : Nat → Int32} (hG : Γ.2.2.2.2 = (sb, L, xs)) (hi : zix i L) (hd : decode (zcc X) pc = .ok (.iaload, 1)) (kk : Z Γ X d h0 o (pc + 1) lv (.int (xs i.toNatClampNeg) :: st) h) : Z Γ X d h0 o pc lv (.int i :: .ref sb :: st) h := by
  refine ⟨kk.1, fun hle p l e R s m args below meth c H locs ls C hRp hSv hl => ?_⟩
  have hX := C.2.2.2.2.2.2.2.2.1.2.2.2.2.2.2.2.2.1
  have hb := C.2.2.2.2.2.2.2.2.1.2.2.2.2.2.2.2.2.2.1
  have hB := C.2.2.2.2.2.2.2.2.1.2.1
  rw [hG] at hX hb
  exact va_sld C.1 C.2.1 hX (Nat.lt_of_lt_of_le hb hB) (Nat.not_le.mpr hb) hSv hi.vp hd (kk.2 hle p l e R s m args below meth c H locs ls C hRp hSv hl)
theorem z_slen {sb L : Nat} {xs : Nat → Int32} (hG : Γ.2.2.2.2 = (sb, L, xs)) (hd : decode (zcc X) pc = .ok (.arraylength, 1)) (kk : Z Γ X d h0 o (pc + 1) lv (.int (Int32.ofNat L) :: st) h) : Z Γ X d h0 o pc lv (.ref sb :: st) h := by
  refine ⟨kk.1, fun hle p l e R s m args below meth c H locs ls C hRp hSv hl => ?_⟩
  have hX := C.2.2.2.2.2.2.2.2.1.2.2.2.2.2.2.2.2.1
  have hb := C.2.2.2.2.2.2.2.2.1.2.2.2.2.2.2.2.2.2.1
  have hB := C.2.2.2.2.2.2.2.2.1.2.1
  rw [hG] at hX hb
  exact va_slen C.1 C.2.1 hX (Nat.lt_of_lt_of_le hb hB) (Nat.not_le.mpr hb) hSv hd (kk.2 hle p l e R s m args below meth c H locs ls C hRp hSv hl)
/-! ===== z: System.arraycopy over ints ===== -/
def cpI (h : zH) (a0 : Nat) (sp : Int32) (a : Nat) (dp n : Int32) : Option zH := match hM h a0, hM h a with
  | some (.inl (k0, n0, .inl f)), some (.inl (k1, n1, .inl g)) => if k0 = 0 ∧ k1 = 0 ∧ ¬ sp < 0 ∧ ¬ dp < 0 ∧ ¬ n < 0 ∧ sp.toNatClampNeg + n.toNatClampNeg ≤ n0 ∧ dp.toNatClampNeg + n.toNatClampNeg ≤ n1 then some (hPut h a (.inl (0, n1, .inl (va_cpy f g sp.toNatClampNeg dp.toNatClampNeg n.toNatClampNeg)))) else none
  | _, _ => none
theorem z_copyI {β : Type} {K : zH → Option β} {w : β} {index a0 a : Nat} {sp dp n : Int32} (hd : decode (zcc X) pc = .ok (.invokestatic index, 3)) (hlk : Cond.methodLink X.1.cls index arraycopyName ∈ GW) (hnat : Cond.native arraycopyName ∈ GW) (hsta : Cond.static arraycopyName ∈ GW) (hini : Cond.initialized "java/lang/System" ∈ GW) (hdd : 8 ≤ d) (hst : (st.map fun v => v.category).sum ≤ 8)
    (hf : (cpI h a0 sp a dp n).bind K = some w) (kk : ∀ h1 : zH, K h1 = some w → Z Γ X d h0 o (pc + 3) lv st h1) : Z Γ X d h0 o pc lv (.int n :: .int dp :: .ref a :: .int sp :: .ref a0 :: st) h := by
  obtain ⟨h1, hf1, hf2⟩ := Option.bind_eq_some_iff.mp hf
  have kk := kk _ hf2
  unfold cpI at hf1
  split at hf1
  · next k0 n0 f k1 n1 g he0 he1 =>
    split at hf1
    · next hc =>
      obtain ⟨rfl, rfl, h1, h2, h3, h4, h5⟩ := hc
      cases hf1
      refine ⟨kk.1, fun hle p l e R s m args below meth c H locs ls C hRp hSv hl => ?_⟩
      have hts := C.2.2.2.2.2.2.1
      have hR1 := C.2.2.2.2.2.2.2.2.2.2.1
      have hR2 := C.2.2.2.2.2.2.2.2.2.2.2.1
      have nn : ∀ z : Int32, ¬ z < 0 → z.toInt = (z.toNatClampNeg : Int) := by
        intro z hz
        have hz0 : (0 : Int) ≤ z.toInt := by
          have := Int32.not_lt.mp hz
          simpa using Int32.le_iff_toInt_le.mp this
        show z.toInt = ((z.toInt.toNat : Nat) : Int)
        omega
      intro T hT Xs
      have hc0 : H[a0]? = some (vp_cell (Γ.2.1 0) (n0, .inl f)) := (hRp.l he0).2
      have hc1 : H[a]? = some (vp_cell (Γ.2.1 0) (n1, .inl g)) := (hRp.l he1).2
      obtain ⟨-, kA, hkA, cmA, hkkA⟩ := (C.2.2.2.2.2.2.2.2.1.1.2 0 _ (ztys_at Γ.2.1 (k := 0) (by decide))).1 n0 (fun j => .int (f j))
      obtain ⟨vm', X', step⟩ := Xs.arraycopy C.1 C.2.2.2.2.1 (hts _ hlk) (hts _ hnat) (hts _ hsta) (hts _ hini) (src := a0) (dst := a) (cs := vp_cell (Γ.2.1 0) (n0, .inl f)) (cd := vp_cell (Γ.2.1 0) (n1, .inl g)) (srcPos := sp) (destPos := dp) (n := n) (by rw [hT]; exact hc0) (by rw [hT]; exact hc1)
        (fun _ h => by cases h) (fun _ h => by cases h) (fun h => by cases h) (fun h => by cases h) hkA hkA hkkA hkkA (by simp [zaty, refKind]) h1 h2 h3
        (by rw [nn sp h1, nn n h3]; show ¬ _ > ((arrV (Γ.2.1 0) n0 (fun j => .int (f j))).slots.size : Int); rw [arrV_size]; omega)
        (by rw [nn dp h2, nn n h3]; show ¬ _ > ((arrV (Γ.2.1 0) n1 (fun j => .int (g j))).slots.size : Int); rw [arrV_size]; omega)
        (fun vm₁ _ i hi => by
          have e : (vp_cell (Γ.2.1 0) (n0, .inl f)).slots.getD (sp.toNatClampNeg + i) .null = .int (f (sp.toNatClampNeg + i)) := by
            show (arrV (Γ.2.1 0) n0 (fun j => .int (f j))).slots.getD _ _ = _
            rw [Array.getD_eq_getD_getElem?, arrV_read _ _ (by omega)]
            rfl
          refine ⟨?_, ?_⟩
          · rw [e]
            rfl
          · rw [e]
            exact trivial)
        (g := F0 m pc ls (.int n :: .int dp :: .ref a :: .int sp :: .ref a0 :: st)) rfl (hl.1.trans C.2.2.2.1.symm) (rest := st) rfl (by rw [C.2.1]; exact hd) (by omega) (by
          have e9 : nativeFrameWords "java/lang/System" "arraycopy" 5 ≤ 100 := by decide +kernel
          show 2 * 0 + _ + _ ≤ _
          omega)
      have e1 : copied (vp_cell (Γ.2.1 0) (n0, .inl f)) (vp_cell (Γ.2.1 0) (n1, .inl g)) sp dp n = vp_cell (Γ.2.1 0) (n1, .inl (va_cpy f g sp.toNatClampNeg dp.toNatClampNeg n.toNatClampNeg)) := va_copied (fun z => .int z) (Γ.2.1 0) (Γ.2.1 0) f g h4
      rw [e1] at X' step
      have hlt : a < H.size := (Array.getElem?_eq_some_iff.mp hc1).1
      have oq : ∀ q : Nat, q ≠ a → (H.setIfInBounds a (vp_cell (Γ.2.1 0) (n1, .inl (va_cpy f g sp.toNatClampNeg dp.toNatClampNeg n.toNatClampNeg))))[q]? = H[q]? := fun q hq => by simp [Array.getElem?_setIfInBounds, Ne.symm hq]
      have hA := (hRp.l he1).1
      have hat : va_at Γ.1 vwCl (a, ztoE Γ.2.1 (.inl (0, n1, .inl (va_cpy f g sp.toNatClampNeg dp.toNatClampNeg n.toNatClampNeg)))) (H.setIfInBounds a (vp_cell (Γ.2.1 0) (n1, .inl (va_cpy f g sp.toNatClampNeg dp.toNatClampNeg n.toNatClampNeg)))) := by
        show (H.setIfInBounds a _)[a]? = some _
        simp [Array.getElem?_setIfInBounds, hlt]
      obtain ⟨t, a1, b1⟩ := kk.2 hle p l e R s m args below meth c _ _ ls C (hRp.put he1 zRl_l hat zRl_l (by simp) oq) ⟨by simp; exact hSv.1, fun q g1 g2 => by
          rw [oq q (fun e => g2 (by rw [e]; exact hA))]
          exact hSv.2.1 q g1 g2, fun q hq => by
          rcases List.mem_append.mp hq with h | h
          · exact hSv.2.2 q h
          · obtain ⟨z, -, hz⟩ := List.mem_map.mp h
            rw [← hz]
            exact hA⟩ hl ((T.setVm vm').setCell a (vp_cell (Γ.2.1 0) (n1, .inl (va_cpy f g sp.toNatClampNeg dp.toNatClampNeg n.toNatClampNeg)))) (by rw [← hT]; rfl) X'
      exact ⟨t, step t a1, b1⟩
    · cases hf1
  · cases hf1
end ZSPEC
theorem z_sw_out {x : Int32} {lo : Int} {n : Nat} (hlo : -2147483648 ≤ lo) (hhi : lo + n ≤ 2147483647) (h : ∀ k : Nat, k < n → x ≠ Int32.ofInt (lo + k)) : x.toInt < lo ∨ lo + n - 1 < x.toInt := by
  rcases Int.lt_or_le x.toInt lo with h1 | h1
  · exact Or.inl h1
  · rcases Int.lt_or_le (lo + n - 1) x.toInt with h2 | h2
    · exact Or.inr h2
    · refine absurd ?_ (h (x.toInt - lo).toNat (by omega))
      rw [show lo + ((x.toInt - lo).toNat : Int) = x.toInt by omega]
      exact (Int32.ofInt_toInt x).symm

/-! THE CLAIM OUT OF ONE WALK OF THE LAW'S BODY. Your part is whole_start (and what it stands on); all else here is the same for every law, but numbers. -/
def R_law : String := "GroupBidsLaw"
def lw_P (b : Addr) (xs : List Int32) (args : Array Value) (s : State) : Prop := args = #[.ref b] ∧ s.IntsAt b xs ∧ xs.length ≤ 260 ∧ (Jvm.Cond.and given_1 narrow_1).before args s = true
def lw_Q (_ : Array Value) (s : State) (o : Outcome) (t : State) : Prop := o = .returned (some (.int 1)) ∧ Framed s o t [] 1129524 5713128
def lw_Z (below : List Frame) (a : Array Value) (s : State) : State → Prop := fun t => ∃ o, t.status = .running ∧ Ended t below o ∧ lw_Q a s o t
/-- the law's own end, with 1 on the stack, nothing written that was there before, its room as the claim has it -/
theorem lw_ret {p : Program} {l : Launch} {e : Env} {s : State} {m : MethodId} {below : List Frame} {meth : Method} {c : Code} {b : Nat} (hx : p.tables.exec = Jvm.exec) (hb : c.code = code) (hr : meth.sig.returnType = ret) (hlocks : meth.locks = false) {pc : Nat} {H : Heap} {ls : Array Slot} (hdg : decode code pc = .ok (.ireturn, 1)) : W p l e room_1 s m #[Value.ref b] below meth c H [] 1129524 5713128 (lw_Z below #[Value.ref b] s) (F0 m pc ls [.int 1]) := by
  intro T hT X
  obtain ⟨fs, hret, hrun, hended, hW, hframe⟩ := X.leave (v := some (.int 1)) (hlocks := hlocks) (fun h => by rw [hr] at h; cases h)
  have hmeth' : T.vm.method? m = some meth := X.method'
  refine ⟨T.setFrames fs, ?_, .returned (some (.int 1)), hrun, hended, rfl, ⟨_, rfl⟩, hW, hframe⟩
  jvm_step X.here [X.here.top, hx, hb, hdg, hmeth', hr, ret, narrow_b1]
  (try refine ⟨rfl, ?_⟩); (try refine ⟨rfl, ?_⟩)
  first | (intro acts; rw [hret _ acts rfl rfl rfl]) | rw [hret _ _ rfl rfl rfl]
  exact Steps.refl _
/-- what holds at the law's entry: the machine, the code, the tables' words (any of lw_tbl by 'hts w (by decide +kernel)'), the script of L ints xs at the cell b, what the Statement gives of the start (any of its parts by flat_of_before) -/
def lw_At (p : Program) (s : State) (m : MethodId) (meth : Method) (c : Code) (b L : Nat) (xs : Nat → Int32) : Prop :=
  p.tables.exec = Jvm.exec ∧ c.code = code ∧ meth.sig.returnType = ret ∧ c.maxLocals = 25 ∧ s.vm.findClass R_law = some m.cls ∧ (∀ w ∈ lw_tbl, w.before #[Value.ref b] s = true) ∧ va_X b L xs s s.heap ∧ b < s.heap.size ∧ meth.locks = false ∧ (Jvm.Cond.and given_1 narrow_1).before #[Value.ref b] s = true ∧ (∀ x ∈ c.exceptionTable.toList, False)
def zFL : List Cond := flatC (Jvm.Cond.and given_1 narrow_1)
def ztm (i : Nat) : Term := if i < 9 then .string RX7 (zsi7 i) else if i < 13 then .string RL (zsiL (i - 5)) else .string RX10 (zsiN (i - 13))
theorem zf_ex_i : ∀ i, i < 20 → zFL[([372, 381, 391, 399, 406, 415, 423, 432, 440, 495, 549, 457, 462, 505, 516, 521, 528, 534, 539, 544] : List Nat).getD i 0]? = some (Cond.exactly (ztm i) "java/lang/String") := by decide +kernel
theorem zf_ex : ∀ i, i < 20 → Cond.exactly (ztm i) "java/lang/String" ∈ zFL := fun i hi => List.mem_of_getElem? (zf_ex_i i hi)
theorem zf_co_i : ∀ i, i < 20 → zFL[([373, 382, 392, 400, 407, 416, 424, 433, 441, 496, 550, 458, 463, 506, 517, 522, 529, 535, 540, 545] : List Nat).getD i 0]? = some (Cond.eq (.field (ztm i) "java/lang/String" "coder" "B") (.int 0)) := by decide +kernel
theorem zf_co : ∀ i, i < 20 → Cond.eq (.field (ztm i) "java/lang/String" "coder" "B") (.int 0) ∈ zFL := fun i hi => List.mem_of_getElem? (zf_co_i i hi)
theorem zf_ar_i : ∀ i, i < 20 → zFL[([374, 383, 393, 401, 408, 417, 425, 434, 442, 497, 551, 459, 464, 507, 518, 523, 530, 536, 541, 546] : List Nat).getD i 0]? = some (Cond.arrayOf (.field (ztm i) "java/lang/String" "value" "[B") .byte) := by decide +kernel
theorem zf_ar : ∀ i, i < 20 → Cond.arrayOf (.field (ztm i) "java/lang/String" "value" "[B") .byte ∈ zFL := fun i hi => List.mem_of_getElem? (zf_ar_i i hi)
theorem zf_le_i : ∀ i, i < 20 → zFL[([375, 384, 394, 402, 409, 418, 426, 435, 443, 498, 552, 460, 465, 508, 519, 524, 531, 537, 542, 547] : List Nat).getD i 0]? = some (Cond.eq (.length (.field (ztm i) "java/lang/String" "value" "[B")) (.int (Int32.ofNat (zlen.getD i 0)))) := by decide +kernel
theorem zf_le : ∀ i, i < 20 → Cond.eq (.length (.field (ztm i) "java/lang/String" "value" "[B")) (.int (Int32.ofNat (zlen.getD i 0))) ∈ zFL := fun i hi => List.mem_of_getElem? (zf_le_i i hi)
theorem zf_el_i : ∀ i, i < 20 → ∀ j, j < zlen.getD i 0 → zFL[(([[376, 377, 378, 379, 380], [385, 386, 387, 388, 389, 390], [395, 396, 397, 398], [403, 404, 405], [410, 411, 412, 413, 414], [419, 420, 421, 422], [427, 428, 429, 430, 431], [436, 437, 438, 439], [444, 445, 446], [499, 500, 501, 502, 503, 504], [553, 554], [461], [466], [], [520], [525, 526, 527], [532, 533], [538], [543], [548]] : List (List Nat)).getD i []).getD j 0]? = some (Cond.eq (.elem (.field (ztm i) "java/lang/String" "value" "[B") (.int (Int32.ofNat j))) (.int ((zbyt.getD i []).getD j 0))) := by decide +kernel
theorem zf_el : ∀ i, i < 20 → ∀ j, j < zlen.getD i 0 → Cond.eq (.elem (.field (ztm i) "java/lang/String" "value" "[B") (.int (Int32.ofNat j))) (.int ((zbyt.getD i []).getD j 0)) ∈ zFL := fun i hi j hj => List.mem_of_getElem? (zf_el_i i hi j hj)
theorem zf_df : ∀ i, i < 20 → ∀ j, j < 20 → i = j ∨ ¬ Int32.ofNat (zlen.getD i 0) = Int32.ofNat (zlen.getD j 0) ∨ ∃ k, k < zlen.getD i 0 ∧ k < zlen.getD j 0 ∧ ¬ (zbyt.getD i []).getD k 0 = (zbyt.getD j []).getD k 0 := by decide +kernel
theorem zf_nc_i : ∀ i, i < 4 → ∀ j, j < 4 → i ≠ j → zFL[(([[0, 237, 255, 273], [289, 0, 253, 271], [290, 235, 0, 272], [291, 236, 254, 0]] : List (List Nat)).getD i []).getD j 0]? = some (Cond.not (Cond.castable (zexn i) (zexn j))) := by decide +kernel
theorem zf_nc : ∀ i, i < 4 → ∀ j, j < 4 → i ≠ j → Cond.not (Cond.castable (zexn i) (zexn j)) ∈ zFL := fun i hi j hj hne => List.mem_of_getElem? (zf_nc_i i hi j hj hne)
theorem zf_s7_i : ∀ i, i < 9 → lw_tbl[([678, 751, 766, 803, 809, 830, 831, 832, 833] : List Nat).getD i 0]? = some (Cond.stringRef RX7 (zsi7 i) (ztxt i)) := by decide +kernel
theorem zf_s7 : ∀ i, i < 9 → Cond.stringRef RX7 (zsi7 i) (ztxt i) ∈ lw_tbl := fun i hi => List.mem_of_getElem? (zf_s7_i i hi)
theorem zf_sL_i : ∀ i, i < 8 → lw_tbl[([1192, 1226, 1227, 1228, 1253, 1490, 1219, 1223] : List Nat).getD i 0]? = some (Cond.stringRef RL (zsiL i) (ztxt (zciL i))) := by decide +kernel
theorem zf_sL : ∀ i, i < 8 → Cond.stringRef RL (zsiL i) (ztxt (zciL i)) ∈ lw_tbl := fun i hi => List.mem_of_getElem? (zf_sL_i i hi)
theorem zf_sN_i : ∀ i, i < 7 → lw_tbl[([1288, 1484, 1485, 1486, 1487, 1488, 1489] : List Nat).getD i 0]? = some (Cond.stringRef RX10 (zsiN i) (ztxt (zciN i))) := by decide +kernel
theorem zf_sN : ∀ i, i < 7 → Cond.stringRef RX10 (zsiN i) (ztxt (zciN i)) ∈ lw_tbl := fun i hi => List.mem_of_getElem? (zf_sN_i i hi)
theorem zf_eL_i : ∀ i, i < 4 → zFL[([456, 477, 486, 494] : List Nat).getD i 0]? = some (Cond.eq (.string RX7 (zsi7 i)) (.string RL (zsiL i))) := by decide +kernel
theorem zf_eL : ∀ i, i < 4 → Cond.eq (.string RX7 (zsi7 i)) (.string RL (zsiL i)) ∈ zFL := fun i hi => List.mem_of_getElem? (zf_eL_i i hi)
theorem zf_eV_i : ∀ i, i < 4 → zFL[([563, 573, 582, 590] : List Nat).getD i 0]? = some (Cond.eq (.string RX7 (zsi7 (5 + i))) (.string RL (308 + i))) := by decide +kernel
theorem zf_eV : ∀ i, i < 4 → Cond.eq (.string RX7 (zsi7 (5 + i))) (.string RL (308 + i)) ∈ zFL := fun i hi => List.mem_of_getElem? (zf_eV_i i hi)
theorem zf_vE_i : ∀ i, i < 4 → zFL[([220, 221, 222, 223] : List Nat).getD i 0]? = some (Cond.eq (.elem (.static RL "VARIABLES" "[Ljava/lang/String;") (.int (Int32.ofNat i))) (.string RL (308 + i))) := by decide +kernel
theorem zf_vE : ∀ i, i < 4 → Cond.eq (.elem (.static RL "VARIABLES" "[Ljava/lang/String;") (.int (Int32.ofNat i))) (.string RL (308 + i)) ∈ zFL := fun i hi => List.mem_of_getElem? (zf_vE_i i hi)
theorem zf_vA : Cond.arrayOf (.static RL "VARIABLES" "[Ljava/lang/String;") (.object "java/lang/String") ∈ zFL := List.mem_of_getElem? (i := 218) (by decide +kernel)
theorem zf_vL : Cond.eq (.length (.static RL "VARIABLES" "[Ljava/lang/String;")) (.int (Int32.ofNat 4)) ∈ zFL := List.mem_of_getElem? (i := 219) (by decide +kernel)
theorem zf_d1A : Cond.arrayOf (.static "java/lang/Integer" "DigitOnes" "[B") .byte ∈ zFL := List.mem_of_getElem? (i := 12) (by decide +kernel)
theorem zf_d1L : Cond.eq (.length (.static "java/lang/Integer" "DigitOnes" "[B")) (.int (Int32.ofNat 100)) ∈ zFL := List.mem_of_getElem? (i := 13) (by decide +kernel)
theorem zf_d1E_i : ∀ i, i < 100 → zFL[14 + i]? = some (Cond.eq (.elem (.static "java/lang/Integer" "DigitOnes" "[B") (.int (Int32.ofNat i))) (.int (Int32.ofNat (48 + i % 10)))) := by decide +kernel
theorem zf_d1E : ∀ i, i < 100 → Cond.eq (.elem (.static "java/lang/Integer" "DigitOnes" "[B") (.int (Int32.ofNat i))) (.int (Int32.ofNat (48 + i % 10))) ∈ zFL := fun i hi => List.mem_of_getElem? (zf_d1E_i i hi)
theorem zf_d2A : Cond.arrayOf (.static "java/lang/Integer" "DigitTens" "[B") .byte ∈ zFL := List.mem_of_getElem? (i := 115) (by decide +kernel)
theorem zf_d2L : Cond.eq (.length (.static "java/lang/Integer" "DigitTens" "[B")) (.int (Int32.ofNat 100)) ∈ zFL := List.mem_of_getElem? (i := 116) (by decide +kernel)
theorem zf_d2E_i : ∀ i, i < 100 → zFL[117 + i]? = some (Cond.eq (.elem (.static "java/lang/Integer" "DigitTens" "[B") (.int (Int32.ofNat i))) (.int (Int32.ofNat (48 + i / 10)))) := by decide +kernel
theorem zf_d2E : ∀ i, i < 100 → Cond.eq (.elem (.static "java/lang/Integer" "DigitTens" "[B") (.int (Int32.ofNat i))) (.int (Int32.ofNat (48 + i / 10))) ∈ zFL := fun i hi => List.mem_of_getElem? (zf_d2E_i i hi)
theorem zf_us : Cond.isRef (.static Bundle.tN "UNASSIGNED_STACK" Bundle.steD) ∈ zFL := List.mem_of_getElem? (i := 4) (by decide +kernel)
theorem zf_su : Cond.isRef (.static Bundle.tN "SUPPRESSED_SENTINEL" Bundle.listD) ∈ zFL := List.mem_of_getElem? (i := 5) (by decide +kernel)
theorem zf_cs : Cond.eq (.static "java/lang/String" "COMPACT_STRINGS" "Z") (.int 1) ∈ zFL := List.mem_of_getElem? (i := 6) (by decide +kernel)
theorem zf_sf : Cond.isRef (.static "jdk/internal/util/Preconditions" "SIOOBE_FORMATTER" "Ljava/util/function/BiFunction;") ∈ zFL := List.mem_of_getElem? (i := 7) (by decide +kernel)
theorem zl_us : Cond.laysStatic Bundle.tN "UNASSIGNED_STACK" Bundle.steD ∈ lw_tbl := List.mem_of_getElem? (i := 606) (by decide +kernel)
theorem zl_su : Cond.laysStatic Bundle.tN "SUPPRESSED_SENTINEL" Bundle.listD ∈ lw_tbl := List.mem_of_getElem? (i := 608) (by decide +kernel)
theorem zl_cs : Cond.laysStatic "java/lang/String" "COMPACT_STRINGS" "Z" ∈ lw_tbl := List.mem_of_getElem? (i := 692) (by decide +kernel)
theorem zl_sf : Cond.laysStatic "jdk/internal/util/Preconditions" "SIOOBE_FORMATTER" "Ljava/util/function/BiFunction;" ∈ lw_tbl := List.mem_of_getElem? (i := 708) (by decide +kernel)
theorem zl_d1 : Cond.laysStatic "java/lang/Integer" "DigitOnes" "[B" ∈ lw_tbl := List.mem_of_getElem? (i := 1394) (by decide +kernel)
theorem zl_d2 : Cond.laysStatic "java/lang/Integer" "DigitTens" "[B" ∈ lw_tbl := List.mem_of_getElem? (i := 1396) (by decide +kernel)
theorem zl_vv : Cond.laysStatic RL "VARIABLES" "[Ljava/lang/String;" ∈ lw_tbl := List.mem_of_getElem? (i := 1482) (by decide +kernel)
theorem zl_it : Cond.initialized Bundle.tN ∈ lw_tbl := List.mem_of_getElem? (i := 52) (by decide +kernel)
theorem zl_is : Cond.initialized "java/lang/String" ∈ lw_tbl := List.mem_of_getElem? (i := 60) (by decide +kernel)
theorem zl_ip : Cond.initialized "jdk/internal/util/Preconditions" ∈ lw_tbl := List.mem_of_getElem? (i := 62) (by decide +kernel)
theorem zl_ii : Cond.initialized "java/lang/Integer" ∈ lw_tbl := List.mem_of_getElem? (i := 41) (by decide +kernel)
theorem zl_il : Cond.initialized RL ∈ lw_tbl := List.mem_of_getElem? (i := 37) (by decide +kernel)
theorem gw_tbl {w : Cond} (h : w ∈ GW) : w ∈ lw_tbl := (List.mem_filter.mp h).1
theorem zv_eqv {args : Array Value} {s : State} {t u : Term} {a : Nat} (h : (Cond.eq t u).before args s = true) (ht : t.eval args s none [] s = some (.ref a)) : u.eval args s none [] s = some (.ref a) := by
  cases hv : u.eval args s none [] s with
  | none => simp [Cond.before, Cond.holds, Cond.value, ht, hv] at h
  | some w =>
    simp only [Cond.before, Cond.holds, Cond.value, ht, hv] at h
    cases w <;> simp_all
theorem zv_eqb {args : Array Value} {s : State} {t u : Term} {a : Nat} (h : (Cond.eq t u).before args s = true) (hu : u.eval args s none [] s = some (.ref a)) : t.eval args s none [] s = some (.ref a) := by
  cases hv : t.eval args s none [] s with
  | none => simp [Cond.before, Cond.holds, Cond.value, hu, hv] at h
  | some w =>
    simp only [Cond.before, Cond.holds, Cond.value, hu, hv] at h
    cases w <;> simp_all
theorem z_kn {s : State} {args : Array Value} (hts : ∀ w ∈ lw_tbl, w.before args s = true) : ∀ k : Nat, ∃ p : ClassId × (Nat → Nat), ∀ q : vw_C, vwCl[k]? = some q → u_Kn s q.1 q.2.1 q.2.2 p.1 p.2 := by
  have key : ∀ {C O : String} {T : u_T} {N c : Nat} {ty : Nat → FieldType}, zClsO c C O T N ty → Cond.instantiable C N ∈ GW → ∃ p : ClassId × (Nat → Nat), u_Kn s C T N p.1 p.2 := by
    intro C O T N c ty h hi
    obtain ⟨cC, iS, hk⟩ := u_known (C := C) (T := T) (N := N) (n := N) hts (fun w hw => gw_tbl (h.2.1 w hw)) (hts _ (gw_tbl hi))
    exact ⟨(cC, iS), hk⟩
  intro k
  match k with
  | 0 =>
    obtain ⟨p, hp⟩ := key zc0 wn_X0
    exact ⟨p, fun q hq => by cases hq; exact hp⟩
  | 1 =>
    obtain ⟨p, hp⟩ := key zc1 wn_X1
    exact ⟨p, fun q hq => by cases hq; exact hp⟩
  | 2 =>
    obtain ⟨p, hp⟩ := key zc2 wn_X2
    exact ⟨p, fun q hq => by cases hq; exact hp⟩
  | 3 =>
    obtain ⟨p, hp⟩ := key zc3 wn_X3
    exact ⟨p, fun q hq => by cases hq; exact hp⟩
  | 4 =>
    obtain ⟨p, hp⟩ := key zc4 wn_X4
    exact ⟨p, fun q hq => by cases hq; exact hp⟩
  | 5 =>
    obtain ⟨p, hp⟩ := key zc5 wn_X5
    exact ⟨p, fun q hq => by cases hq; exact hp⟩
  | 6 =>
    obtain ⟨p, hp⟩ := key zc6 wn_X6
    exact ⟨p, fun q hq => by cases hq; exact hp⟩
  | 7 =>
    obtain ⟨p, hp⟩ := key zc7 wn_X7
    exact ⟨p, fun q hq => by cases hq; exact hp⟩
  | 8 =>
    obtain ⟨p, hp⟩ := key zc8 wn_X8
    exact ⟨p, fun q hq => by cases hq; exact hp⟩
  | 9 =>
    obtain ⟨p, hp⟩ := key zc9 wn_X9
    exact ⟨p, fun q hq => by cases hq; exact hp⟩
  | 10 =>
    obtain ⟨p, hp⟩ := key zc10 wn_X10
    exact ⟨p, fun q hq => by cases hq; exact hp⟩
  | 11 =>
    obtain ⟨p, hp⟩ := key zc11 wn_X11
    exact ⟨p, fun q hq => by cases hq; exact hp⟩
  | 12 =>
    obtain ⟨p, hp⟩ := key zc12 wn_X12
    exact ⟨p, fun q hq => by cases hq; exact hp⟩
  | 13 =>
    obtain ⟨p, hp⟩ := key zc13 wn_J0
    exact ⟨p, fun q hq => by cases hq; exact hp⟩
  | 14 =>
    obtain ⟨p, hp⟩ := key zc14 wn_J4
    exact ⟨p, fun q hq => by cases hq; exact hp⟩
  | k + 15 => exact ⟨(0, fun _ => 0), fun q hq => by simp [vwCl] at hq⟩
theorem z_ar {s : State} {args : Array Value} (hts : ∀ w ∈ lw_tbl, w.before args s = true) : ∀ k : Nat, ∃ cA : ClassId, k < 8 → ArrOfT s cA (zaty k) ∧ va_RA s cA (zaty k) := by
  intro k
  match k with
  | 0 =>
    obtain ⟨c, kA, comp, h1, h2, h3⟩ := Cond.arrayClass_spec (hts _ (gw_tbl wa_I))
    exact ⟨c, fun _ => ⟨fun n z => ⟨(fun k h => by cases h), kA, h2, comp, h3⟩, h1⟩⟩
  | 1 =>
    obtain ⟨c, kA, comp, h1, h2, h3⟩ := Cond.arrayClass_spec (hts _ (gw_tbl wa_J))
    exact ⟨c, fun _ => ⟨fun n z => ⟨(fun k h => by cases h), kA, h2, comp, h3⟩, h1⟩⟩
  | 2 =>
    obtain ⟨c, kA, comp, h1, h2, h3⟩ := Cond.arrayClass_spec (hts _ (gw_tbl wa_Z))
    exact ⟨c, fun _ => ⟨fun n z => ⟨(fun k h => by cases h), kA, h2, comp, h3⟩, h1⟩⟩
  | 3 =>
    obtain ⟨comp, c, kA, h1, h2, h3, h4, h5⟩ := Cond.arrayOver_spec (hts _ wo_3)
    exact ⟨c, fun _ => ⟨fun n z => ⟨(fun k h => by cases h), kA, h3, comp, h4⟩, kA, comp, h3, h4, h1, h5⟩⟩
  | 4 =>
    obtain ⟨comp, c, kA, h1, h2, h3, h4, h5⟩ := Cond.arrayOver_spec (hts _ wo_4)
    exact ⟨c, fun _ => ⟨fun n z => ⟨(fun k h => by cases h), kA, h3, comp, h4⟩, kA, comp, h3, h4, h1, h5⟩⟩
  | 5 =>
    obtain ⟨comp, c, kA, h1, h2, h3, h4, h5⟩ := Cond.arrayOver_spec (hts _ wo_5)
    exact ⟨c, fun _ => ⟨fun n z => ⟨(fun k h => by cases h), kA, h3, comp, h4⟩, kA, comp, h3, h4, h1, h5⟩⟩
  | 6 =>
    obtain ⟨comp, c, kA, h1, h3, h4, h5⟩ := Cond.arrayOver_specA (hts _ wo_6)
    exact ⟨c, fun _ => ⟨fun n z => ⟨(fun k h => by cases h), kA, h3, comp, h4⟩, h5⟩⟩
  | 7 =>
    obtain ⟨comp, c, kA, h1, h2, h3, h4, h5⟩ := Cond.arrayOver_spec (hts _ wo_7)
    exact ⟨c, fun _ => ⟨fun n z => ⟨(fun k h => by cases h), kA, h3, comp, h4⟩, kA, comp, h3, h4, h1, h5⟩⟩
  | k + 8 => exact ⟨0, fun h => by omega⟩
theorem z_differ {s : State} {args : Array Value} (hfl : ∀ w ∈ zFL, w.before args s = true) {i j : Nat} (hi : i < 20) (hj : j < 20) (hij : i ≠ j) : (Cond.not (Cond.eq (ztm i) (ztm j))).before args s = true := by
  obtain ⟨a, c, cA, kA, q1, q2, q3, q4, q5, q6, -⟩ := Cond.exactly_spec (args := args) (first := s) (o := none) (s := s) (idx := []) (t := ztm i) (cls := "java/lang/String") (hfl _ (zf_ex i hi))
  obtain ⟨b, c', cA', kA', r1, r2, r3, r4, r5, r6, -⟩ := Cond.exactly_spec (args := args) (first := s) (o := none) (s := s) (idx := []) (t := ztm j) (cls := "java/lang/String") (hfl _ (zf_ex j hj))
  have hab : a ≠ b := fun e => by
    subst e
    have ef : (Term.field (ztm i) "java/lang/String" "value" "[B").eval args s none [] s = (Term.field (ztm j) "java/lang/String" "value" "[B").eval args s none [] s := by rw [va_fe q1, va_fe r1]
    rcases zf_df i hi j hj with h9 | h9 | ⟨k, k1, k2, k3⟩
    · exact hij h9
    · have l1 := va_eqt (hfl _ (zf_le i hi))
      have l2 := va_eqt (hfl _ (zf_le j hj))
      have el : (Term.length (.field (ztm i) "java/lang/String" "value" "[B")).eval args s none [] s = (Term.length (.field (ztm j) "java/lang/String" "value" "[B")).eval args s none [] s := by
        simp only [Term.eval] at ef ⊢
        rw [ef]
      rw [l1, l2] at el
      have el := Option.some.inj el
      injection el with el
      exact h9 el
    · have l1 := va_eqt (hfl _ (zf_el i hi k k1))
      have l2 := va_eqt (hfl _ (zf_el j hj k k2))
      have el : (Term.elem (.field (ztm i) "java/lang/String" "value" "[B") (.int (Int32.ofNat k))).eval args s none [] s = (Term.elem (.field (ztm j) "java/lang/String" "value" "[B") (.int (Int32.ofNat k))).eval args s none [] s := by
        simp only [Term.eval] at ef ⊢
        rw [ef]
      rw [l1, l2] at el
      have el := Option.some.inj el
      injection el with el
      exact k3 el
  simp [Cond.before, Cond.holds, Cond.value, q1, r1, hab]
theorem z_begin {s : State} {b L : Nat} {xs : Nat → Int32} (hts : ∀ w ∈ lw_tbl, w.before #[Value.ref b] s = true) (hgv : (Jvm.Cond.and given_1 narrow_1).before #[Value.ref b] s = true) (hX : va_X b L xs s s.heap) (hbl : b < s.heap.size) : ∃ Γ : zG, zKK Γ s ∧ zB0 Γ = s.heap.size ∧ Γ.2.2.2.2 = (b, L, xs) := by
  have hfl : ∀ w ∈ zFL, w.before #[Value.ref b] s = true := flat_of_before _ hgv
  obtain ⟨Dk, hD⟩ := Classical.axiomOfChoice (z_kn hts)
  obtain ⟨dA, hdA⟩ := Classical.axiomOfChoice (z_ar hts)
  have hA : ∀ a : Nat, a < s.heap.size → ¬ (fun q : Nat => s.heap.size ≤ q) a := fun a h => Nat.not_le.mpr h
  have hln : ∀ i, i < 20 → zlen.getD i 0 < 2 ^ 31 := by decide +kernel
  obtain ⟨adK, adV, hS, hK⟩ := vk_Sof (N := 20) (tm := ztm) (len := zlen) (byt := zbyt) (A := fun q : Nat => s.heap.size ≤ q) hln (fun i hi => hfl _ (zf_ex i hi)) (fun i hi => hfl _ (zf_co i hi)) (fun i hi => hfl _ (zf_ar i hi)) (fun i hi => hfl _ (zf_le i hi)) (fun i hi j hj => hfl _ (zf_el i hi j hj)) (fun i j hi hj hne => Or.inl (z_differ hfl hi hj hne)) hA
  obtain ⟨t1, e1, T1⟩ := va_Tof (tm := .static "java/lang/Integer" "DigitOnes" "[B") (ty := .byte) (N := 100) (f := fun j => .int (Int32.ofNat (48 + j % 10))) (by decide) (hfl _ zf_d1A) (va_eqt (hfl _ zf_d1L)) (fun j hj => va_eqt (hfl _ (zf_d1E j hj))) hA
  obtain ⟨t2, e2, T2⟩ := va_Tof (tm := .static "java/lang/Integer" "DigitTens" "[B") (ty := .byte) (N := 100) (f := fun j => .int (Int32.ofNat (48 + j / 10))) (by decide) (hfl _ zf_d2A) (va_eqt (hfl _ zf_d2L)) (fun j hj => va_eqt (hfl _ (zf_d2E j hj))) hA
  have h7 : ∀ i, i < 9 → (Term.string RX7 (zsi7 i)).eval #[Value.ref b] s none [] s = some (.ref (adK i)) := fun i hi => by
    have := hK i (by omega)
    rw [show ztm i = .string RX7 (zsi7 i) from if_pos hi] at this
    exact this
  have hV : ∀ j, j < 4 → (Term.string RL (308 + j)).eval #[Value.ref b] s none [] s = some (.ref (adK (5 + j))) := fun j hj => zv_eqv (hfl _ (zf_eV j hj)) (h7 (5 + j) (by omega))
  obtain ⟨t3, e3, T3⟩ := va_Tof (tm := .static RL "VARIABLES" "[Ljava/lang/String;") (ty := .object "java/lang/String") (N := 4) (f := fun j => .ref (adK (5 + j))) (by decide) (hfl _ zf_vA) (va_eqt (hfl _ zf_vL)) (fun j hj => zv_eqb (hfl _ (zf_vE j hj)) (hV j hj)) hA
  have hLs : ∀ j, j < 8 → (Term.string RL (zsiL j)).eval #[Value.ref b] s none [] s = some (.ref (adK (zciL j))) := fun j hj => by
    by_cases h4 : j < 4
    · have e := zv_eqv (hfl _ (zf_eL j h4)) (h7 j (by omega))
      rw [show zciL j = j from by match j, h4 with | 0, _ => rfl | 1, _ => rfl | 2, _ => rfl | 3, _ => rfl]
      exact e
    · have := hK (5 + j) (by omega)
      rw [show ztm (5 + j) = .string RL (zsiL j) from by rw [ztm, if_neg (by omega), if_pos (by omega), show 5 + j - 5 = j by omega]] at this
      rw [show zciL j = 5 + j from by match j, hj, h4 with | 4, _, _ => rfl | 5, _, _ => rfl | 6, _, _ => rfl | 7, _, _ => rfl | 0, _, h => exact absurd (by decide) h | 1, _, h => exact absurd (by decide) h | 2, _, h => exact absurd (by decide) h | 3, _, h => exact absurd (by decide) h]
      exact this
  have hNs : ∀ j, j < 7 → (Term.string RX10 (zsiN j)).eval #[Value.ref b] s none [] s = some (.ref (adK (zciN j))) := fun j hj => by
    have := hK (13 + j) (by omega)
    rw [show ztm (13 + j) = .string RX10 (zsiN j) from by rw [ztm, if_neg (by omega), if_neg (by omega), show 13 + j - 13 = j by omega]] at this
    exact this
  have v20 : ∀ i, i < 20 → (if i = 100 then t1 else if i = 101 then t2 else if i = 102 then t3 else adV i) = adV i := fun i hi => by rw [if_neg (by omega), if_neg (by omega), if_neg (by omega)]
  have hS' : vk_S 20 zlen zbyt adK (fun i => if i = 100 then t1 else if i = 101 then t2 else if i = 102 then t3 else adV i) (fun q : Nat => s.heap.size ≤ q) s s.heap := by
    refine ⟨fun i hi => ?_, hS.2⟩
    have := hS.1 i hi
    rw [← v20 i hi] at this
    exact this
  refine ⟨((fun k => (Dk k).1, fun k => (Dk k).2), dA, s.heap.size, (adK, fun i => if i = 100 then t1 else if i = 101 then t2 else if i = 102 then t3 else adV i), (b, L, xs)), ⟨⟨fun c q hq => hD c q hq, fun k q hq => ?_⟩, Nat.le_refl _, vx_Zqof (hts _ zl_us) (hts _ zl_it) (hfl _ zf_us) hA, vx_Zqof (hts _ zl_su) (hts _ zl_it) (hfl _ zf_su) hA, hS', fun i hi => vk_R.of (hts _ (zf_s7 i hi)) (h7 i hi), va_Zof (hts _ zl_cs) (hts _ zl_is) (va_eqt (hfl _ zf_cs)) hA, va_Zqof (hts _ zl_sf) (hts _ zl_ip) (hfl _ zf_sf) hA, hX, hbl, fun w hw hz => ?_, fun i j hi hj hne => va_Nc.of (hfl _ (zf_nc i hi j hj hne)), fun j hj => vk_R.of (hts _ (zf_sL j hj)) (hLs j hj), fun j hj => vk_R.of (hts _ (zf_sN j hj)) (hNs j hj), ⟨va_Zof (hts _ zl_d1) (hts _ zl_ii) e1 hA, T1⟩, ⟨va_Zof (hts _ zl_d2) (hts _ zl_ii) e2 hA, T2⟩, ⟨va_Zof (hts _ zl_vv) (hts _ zl_il) e3 hA, T3⟩⟩, rfl, rfl⟩
  · have hk6 : k < 8 := (List.getElem?_eq_some_iff.mp hq).1
    rw [ztys_at dA hk6] at hq
    cases hq
    exact hdA k hk6
  · have h9 := hts w hw
    cases w with
    | castable a b => exact va_any rfl h9
    | declares x => exact va_any rfl h9
    | arrayOver t => exact h9
    | methodLinkNest a i x y => exact va_any rfl h9
    | fieldLinkNest a i b n d y => exact va_any rfl h9
    | privateMethod y => exact va_any rfl h9
    | _ => cases hz
theorem z_cells {Γ : zG} {s : State} (hKK : zKK Γ s) (hB0 : zB0 Γ = s.heap.size) : ∃ G : Nat → Option zE, zRp Γ (s.heap.size, 0, G) s.heap ∧ K20 (fun _ => False) (zKa Γ) (s.heap.size, 0, G) := by
  obtain ⟨-, -, -, -, ⟨hS, -⟩⟩ := hKK
  obtain ⟨G, hG⟩ := Classical.axiomOfChoice (r := fun (q : Nat) (x : Option zE) => (∀ i, i < 20 → q = zKa Γ i → x = some (.inr (15, [.int (Int32.ofNat i)]))) ∧ ((∀ i, i < 20 → q ≠ zKa Γ i) → x = none)) (fun q => by
    by_cases h : ∃ i, i < 20 ∧ q = zKa Γ i
    · obtain ⟨i, hi, e⟩ := h
      refine ⟨some (.inr (15, [.int (Int32.ofNat i)])), fun j hj ej => ?_, fun hn => absurd e (hn i hi)⟩
      rw [hS.2 i j hi hj (e.symm.trans ej)]
    · exact ⟨none, fun i hi e => absurd ⟨i, hi, e⟩ h, fun _ => rfl⟩)
  refine ⟨G, ⟨rfl, Nat.le_of_eq hB0, fun a e he => ?_⟩, fun i hi => Or.inl ⟨i, _, hi, ⟨(hG _).1 i hi rfl, ?_, fun h => h⟩, rfl, rfl⟩⟩
  · have he : G a = some e := he
    by_cases h : ∃ i, i < 20 ∧ a = zKa Γ i
    · obtain ⟨i, hi, e9⟩ := h
      rw [(hG a).1 i hi e9] at he
      cases he
      exact ⟨fun hr => absurd rfl (hr _), fun _ => ⟨i, hi, e9, rfl⟩⟩
    · rw [(hG a).2 (fun i hi e9 => h ⟨i, hi, e9⟩)] at he
      cases he
  · obtain ⟨⟨cell, h1, -⟩, -⟩ := hS.1 i hi
    first
      | exact (Array.getElem?_eq_some_iff.mp h1).1
      | (obtain ⟨cA, h2, -⟩ := ‹va_O _ _ _ _ _›; exact (Array.getElem?_eq_some_iff.mp h2).1)
set_option maxHeartbeats 4000000 in
theorem whole_start {p : Program} {e : Env} {s : State} {m : MethodId} {below : List Frame} {meth : Method} {c : Code} (l : Launch) (hflags : l.flags = flags0) {b L : Nat} {xs : Nat → Int32} (hL : L ≤ 260) (C0 : lw_At p s m meth c b L xs) : W p l e room_1 s m #[Value.ref b] below meth c s.heap [] 0 0 (lw_Z below #[Value.ref b] s) (entryFrame m ([Value.ref b] : List Value).toArray 25) := by
  obtain ⟨hx, hb, hr, hml, hown, hts, hX, hbl, hlocks, hgv, htab⟩ := id C0
  obtain ⟨Γ, hKK, hB0, hG⟩ := z_begin hts hgv hX hbl
  obtain ⟨G, hRp, hk20⟩ := z_cells hKK hB0
  obtain ⟨N, h', hf, h1, h2⟩ := z_math L hL xs (zKa Γ) _ _ hk20 (fun x hx => hx.elim)
  have hZ := zw_L_law (Γ := Γ) (N := N) (d := 2048) (h0 := (s.heap.size, 0, G)) hG (by decide) hf
  have hl := lv_entry ([.ref b]) (n := 25) (Nat.le_of_ble_eq_true rfl)
  rw [lg_entry_eq]
  have e1 : hS (zoTI (.inl 1, h')).2 = hS h' := rfl
  have e2 : hN (zoTI (.inl 1, h')).2 = hN h' := rfl
  have hst : l.stackTraces = false := by
    unfold Launch.stackTraces
    rw [hflags]
    decide +kernel
  have hle : zle (s.heap.size, 0, G) h' := hZ.1
  obtain ⟨g1, g2⟩ := hle
  have g3 : hS (s.heap.size, 0, G) = s.heap.size := rfl
  have g4 : hN (s.heap.size, 0, G) = 0 := rfl
  have hC : zC Γ m_L_law 2048 (s.heap.size, 0, G) (zoTI (.inl 1, h')).2 p l room_1 s m #[Value.ref b] meth c := by
    refine ⟨hx, hb, hr, hml, hown, fun h => absurd h (by decide +kernel), fun w hw => hts w (gw_tbl hw), hlocks, hKK, hst, Nat.le_of_ble_eq_true rfl, Nat.le_of_ble_eq_true rfl, ?_, ?_, hRp, List.eq_nil_iff_forall_not_mem.mpr htab, hZ.1⟩
    · show hS h' - s.heap.size ≤ 1129524
      omega
    · show hN h' - 0 ≤ 5713128
      omega
  have key := hZ.2 zle.rf p l e room_1 s m #[Value.ref b] below meth c s.heap [] _ hC hRp va_S.rf hl
  rw [Nat.sub_self, Nat.sub_self] at key
  intro T hT Xs
  obtain ⟨t, st, o, k1, k2, k3⟩ := key T hT Xs
  refine ⟨t, st, o, k1, k2, ?_⟩
  rcases k3 with ⟨⟨⟨v, hv, ho⟩, -, -⟩, Lo, hF, hLo⟩ | ⟨q, -, E, ce, Lo, ⟨⟨k, hk, -⟩, -⟩, -⟩
  · cases hv
    refine ⟨ho, ?_⟩
    have hs := hF.2.2.mono (show hS (zoTI (.inl 1, h')).2 - hS (s.heap.size, 0, G) ≤ 1129524 by rw [e1, g3]; omega) (show hN (zoTI (.inl 1, h')).2 - hN (s.heap.size, 0, G) ≤ 5713128 by rw [e2, g4]; omega)
    refine ⟨hF.1, hF.2.1, hs.1, hs.2.1, hs.2.2.1, hs.2.2.2.1, hs.2.2.2.2.1, fun a c9 hc => ?_⟩
    obtain ⟨c', q1, q2, q3, q4⟩ := hs.2.2.2.2.2 a c9 hc
    refine ⟨c', q1, q2, q3, fun i _ => q4 i (fun hm => ?_)⟩
    have h8 : zB0 Γ ≤ a := hLo _ hm
    have h9 : a < s.heap.size := (Array.getElem?_eq_some_iff.mp hc).1
    rw [hB0] at h8
    exact absurd h9 (Nat.not_lt.mpr h8)
  · cases hk
set_option maxHeartbeats 4000000 in
theorem lw_walk (l : Launch) (hflags : l.flags = flags0) (b : Addr) (xs : List Int32) : MetFree l x (headSpec (Jvm.Cond.code x code maxLocals ret :: tables_1) room_1) (lw_P b xs) (fun _ _ _ _ _ => True) lw_Q := by
  refine MetFree.of_bodyS (code := code) (maxLocals := maxLocals) (ret := ret) (by decide) ?_ ?_
  · intro args s m h hn
    obtain ⟨meth, c, h1, h2, h3, h4, h5, h6, -, -⟩ := Cond.code_spec hn (atoms_spec (ws := Jvm.Cond.code x code maxLocals ret :: tables_1) h _ List.mem_cons_self)
    exact ⟨meth, c, h1, h2, h3, h4, h5, h6⟩
  · intro p e s m args below meth c s₁ B hml0 hP _
    obtain ⟨rfl, hx, hbd, hgv⟩ := hP
    obtain ⟨scr, harrAt, hlist, hof, hsmall⟩ := hx
    obtain ⟨hcb, hkn, -, -⟩ := State.arrayAt?_spec harrAt
    have hown : s.vm.findClass R_law = some m.cls := findClass_of_methodNamed B.named
    have hts0 : ∀ c ∈ (Jvm.Cond.code x code maxLocals ret :: tables_1), c.before #[Value.ref b] s = true := atoms_spec (ws := Jvm.Cond.code x code maxLocals ret :: tables_1) B.pre
    have hts : ∀ w ∈ lw_tbl, w.before #[Value.ref b] s = true := k2_hts_sels lw_privs (fun w hw => hts0 w (List.mem_cons_of_mem _ hw)) lw_privs_ok
    have hml : c.maxLocals = 25 := B.maxLocals_eq (hts0 _ List.mem_cons_self)
    have htab : ∀ x ∈ c.exceptionTable.toList, False := by
      obtain ⟨meth9, c9, h1, h2, -, -, -, -, h7, -⟩ := Cond.code_spec B.named (hts0 _ List.mem_cons_self)
      cases Option.some.inj (h1.symm.trans B.method)
      cases Option.some.inj (h2.symm.trans (Stand.of_body B).code)
      intro x hx
      rw [Array.isEmpty_iff.mp h7] at hx
      cases hx
    have X₀ : Stand p l e room_1 s m #[Value.ref b] below meth c s₁ [] 0 0 := Stand.of_body B
    have hh0 : s₁.heap = s.heap := by rw [B.state]; rfl
    have hsz : scr.slots.size = xs.length := by rw [← Array.length_toList, hlist, List.length_map]
    have hval : ∀ j : Nat, j < xs.length → scr.slots[j]? = some (.int (xs.getD j 0)) := fun j hj => by
      rw [← Array.getElem?_toList, hlist]
      simp [hj]
    have hbl : b < s.heap.size := (Array.getElem?_eq_some_iff.mp hcb).1
    have hX : va_X b xs.length (fun j => xs.getD j 0) s s.heap := ⟨scr, hcb, hof, hkn, hsz, hval⟩
    have K : W p l e room_1 s m #[Value.ref b] below meth c s₁.heap [] 0 0 (lw_Z below #[Value.ref b] s) (entryFrame m ([Value.ref b] : List Value).toArray 25) := by
      rw [hh0]
      exact whole_start l hflags hbd ⟨B.exec, B.bytes, B.returns, hml, hown, hts, hX, hbl, B.notSynchronized, hgv, htab⟩
    obtain ⟨t, a1, o, b1, b2, b3⟩ := K s₁ rfl X₀
    exact ⟨t, o, a1, b1, b2, b3⟩
theorem lw_pre_spec {args : Array Value} {s : State} (h : (Jvm.Cond.and given_1 narrow_1).before args s = true) (hr : rest_1_c.before args s = true) : ∃ (b : Addr) (xs : List Int32), lw_P b xs args s := by
  have hs := flat_of_before _ h
  have hq := flat_of_before _ hr
  have hc : (Cond.count 1).before args s = true := hs _ (by decide +kernel)
  have harr : (Cond.arrayOf (.arg 0) .int).before args s = true := hs _ (by decide +kernel)
  have hle : (Cond.le (.length (.arg 0)) (.int 260)).before args s = true := hs _ (by decide +kernel)
  have hlen : (Cond.isInt (.length (.arg 0))).before args s = true := hq _ (by decide +kernel)
  have hall : (Cond.all (.arg 0) (.isInt (.elem (.arg 0) (.index 0)))).before args s = true := hq _ (by decide +kernel)
  obtain ⟨b, xs, hb, hx⟩ := State.ints_of_pre rfl harr hlen hall
  have hsm : xs.length < 2 ^ 31 := hx.choose_spec.2.2.2
  have hev : (Term.length (.arg 0)).eval args s none [] s = some (.int xs.length.toInt32) := hx.length_eval hb
  have hv := Cond.le_ints hev (show (Term.int 260).eval args s none [] s = some (.int 260) from rfl)
  have hd : xs.length.toInt32 ≤ 260 := by
    simpa [Cond.before, Cond.holds, hv] using hle
  have hN : xs.length ≤ 260 := (Int32.ofNat_le_ofNat hsm (by decide)).mp (show Int32.ofNat xs.length ≤ Int32.ofNat 260 from hd)
  exact ⟨b, xs, Cond.one_arg hc (show args[0]? = some (.ref b) from hb), hx, hN, h⟩
theorem lw_comes (l : Launch) (hflags : l.flags = flags0) : Comes l x (Jvm.Cond.code x code maxLocals ret :: tables_1) room_1 (fun tb e args s => Calls_1 tb e args s ∧ rest_1 tb e args s ∧ Pre_1 tb e args s)
    (fun _ _ args s o t => lw_Q args s o t) := by
  intro p e ha hc hk s m args below hf hfit hheap happ hpre
  obtain ⟨b, xs, hP⟩ := lw_pre_spec hpre.2.2 hpre.2.1
  obtain ⟨k, o, h1, h2, h3, hQ⟩ := lw_walk l hflags b xs p e ha hc hk s m args below hf ((Spec.applies_iff_loose hf).mp happ).1 hP trivial
  exact ⟨k, o, h1, h2, h3, hQ⟩
theorem lw_frame {s t : State} {o : Outcome} {args : Array Value} (h : Framed s o t [] 1129524 5713128) :
    Framed s o t (fieldLocs frame_1_writes args s ++ arrayLocs frame_1_arrays args s ++ staticLocs frame_1_statics s) 1129524 5713128 := h
theorem lw_limb (L : Cond) (hL : ∀ (args : Array Value) (s t : State), L.after args s (.returned (some (.int 1))) t = true) :
    ArmFor flags0 classFile x code maxLocals ret World_1 tables_1 room_1 Calls_1 rest_1 Pre_1
      (fun tb e a s o t => postC L tb e a s o t ∧ Framed s o t (fieldLocs frame_1_writes a s ++ arrayLocs frame_1_arrays a s ++ staticLocs frame_1_statics s) 1129524 5713128) := by
  intro l hflags _ _ p e ha hc hk s m args below hf hfit hheap happ hpre
  obtain ⟨k, o, h1, h2, h3, rfl, hF⟩ := lw_comes l hflags p e ha hc hk s m args below hf hfit hheap happ hpre
  exact ⟨k, _, h1, h2, h3, hL args s _, lw_frame hF⟩
theorem i_vc : Claimed_1_1 ∧ Claimed_1_2 := ⟨lw_limb limb_1_1 (fun args s t => by simp [limb_1_1, Cond.after, Cond.holds, Cond.value]), lw_limb limb_1_2 (fun args s t => Cond.after_iff.mpr (by
  first | (rw [show limb_1_2 = Cond.eq .result (.int 1) from rfl, Cond.eq_ints (x := 1) (y := 1) rfl rfl]; simp; done) | (simp [limb_1_2, Cond.value, Term.eval]; done)))⟩

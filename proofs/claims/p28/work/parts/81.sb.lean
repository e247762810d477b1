/-! ===== string builders ===== -/
def By7 (L : List Nat) : Prop := ∀ i, L.getD i 0 < 128
def SbAt (h : zH) (sb v : Nat) (L : List Nat) : Prop := ∃ (cap : Nat) (u : Value) (f : Nat → Int32), hM h sb = some (.inr (14, [.ref v, .int (nI 0), u, .int (nI L.length)])) ∧ hM h v = some (.inl (2, cap, .inl f)) ∧ (sb ≠ v ∧ sb < hS h ∧ v < hS h) ∧ (L.length ≤ cap ∧ cap ≤ 130) ∧ (∀ i, i < L.length → f i = nI (L.getD i 0)) ∧ (∀ i, i < cap → ∃ x, x < 128 ∧ f i = nI x) ∧ By7 L
section M81
variable {M W : Nat → Prop} {h h' : zH} {N n m bs sb v cap s : Nat} {f g : Nat → Int32} {L S : List Nat} {u : Value}
theorem By7_app {A C : List Nat} (ha : By7 A) (hc : By7 C) : By7 (A ++ C) := fun i => by
  by_cases hi : i < A.length
  · rw [getD_l hi]; exact ha i
  · obtain ⟨j, rfl⟩ : ∃ j, i = A.length + j := ⟨i - A.length, by omega⟩
    rw [getD_r]; exact hc j
theorem fit_all : ∀ x : Fin 128, fitB (nI x.val) := by decide +kernel
theorem fit_of {x : Nat} (hx : x < 128) : fitB (nI x) := fit_all ⟨x, hx⟩
theorem shr_0 (x : Int32) : x >>> (nI 0 &&& 31) = x := by
  rw [show nI 0 &&& (31 : Int32) = 0 by decide]
  exact Int32.shiftRight_zero
theorem shl_0 (x : Int32) : x <<< (nI 0 &&& 31) = x := by
  rw [show nI 0 &&& (31 : Int32) = 0 by decide]
  exact Int32.shiftLeft_zero
theorem sub_le0 {p c : Nat} (hp : p < 2 ^ 30) (hc : c < 2 ^ 30) : (nI p - nI c ≤ 0) = (p ≤ c) := propext (by
  rw [Int32.le_iff_toInt_le, Int32.toInt_sub, nI_toInt (by omega), nI_toInt (by omega), show (0 : Int32).toInt = 0 by decide, Int.bmod_eq_of_le (by omega) (by omega)]
  omega)
theorem nwZ_of (hn : n ≤ 100000) : nwZ h (nI n) = some (hS h, hNew h (.inl (2, n, .inl (fun _ => 0))) n) := by
  unfold nwZ
  rw [nI_clamp (by omega), if_pos ⟨nI_nn (by omega), hn⟩]
theorem stZ_of' {i x : Nat} (hm : hM h v = some (.inl (2, cap, .inl f))) (hi : i < cap) (hc : cap ≤ 130) (hx : x < 128) : stZ h v (nI i) (nI x) = some (hPut h v (.inl (2, cap, .inl (upd f i (nI x))))) := by
  unfold stZ
  rw [hm]
  dsimp only
  rw [nI_clamp (by omega), if_pos ⟨rfl, ⟨nI_nn (by omega), hi⟩, fit_of hx⟩]
theorem cpB_of {a0 n0 dp k : Nat} (h0 : hM h a0 = some (.inl (2, n0, .inl f))) (h1 : hM h v = some (.inl (2, cap, .inl g))) (hk : k ≤ n0) (hd : dp + k ≤ cap) (hc : cap < 1000) (hf : ∀ i, i < k → ∃ x, x < 128 ∧ f i = nI x) : cpB h a0 (nI 0) v (nI dp) (nI k) = some (hPut h v (.inl (2, cap, .inl (va_cpy f g 0 dp k)))) := by
  unfold cpB
  rw [h0, h1]
  dsimp only
  rw [nI_clamp (show 0 < 2 ^ 31 by omega), nI_clamp (show dp < 2 ^ 31 by omega), nI_clamp (show k < 2 ^ 31 by omega), if_pos ⟨rfl, rfl, nI_nn (by omega), nI_nn (by omega), nI_nn (by omega), by omega, hd, fun i hi => by
    obtain ⟨x, x1, x2⟩ := hf i hi
    rw [Nat.zero_add, x2]
    exact fit_of x1⟩]
theorem k7_all : ∀ i : Fin 20, (List.range (zbyt.getD i.val []).length).all (fun j => decide (((zbyt.getD i.val []).map Int32.toNatClampNeg).getD j 0 < 128)) = true := by decide +kernel
theorem kS_7 {i : Nat} (hi : i < 20) : By7 (kS i) := fun j => by
  have hl : (kS i).length = (zbyt.getD i []).length := List.length_map _
  by_cases hj : j < (zbyt.getD i []).length
  · exact of_decide_eq_true (List.all_eq_true.mp (k7_all ⟨i, hi⟩) j (List.mem_range.mpr hj))
  · rw [getD_out (by omega)]; omega
theorem Str_7 (st : StrAt M h s S) : By7 S := by
  rcases st with ⟨i, x, h1, h2, rfl, rfl⟩ | ⟨v, u, w, f9, h1, h2, h3, h5, h4⟩
  · exact kS_7 h1
  · exact h3
/-- the bytes of a string go behind the others -/
theorem gbS_of {c : Nat} (st : StrAt M h s S) (h1 : hM h v = some (.inl (2, cap, .inl g))) (hd : c + S.length ≤ cap) (hc : cap ≤ 130) : ∃ f', gbS h s v (nI c) (nI 0) = some (hPut h v (.inl (2, cap, .inl f'))) ∧ (∀ i, i < S.length → f' (c + i) = nI (S.getD i 0)) ∧ (∀ i, i < c → f' i = g i) ∧ ∀ i, c + S.length ≤ i → f' i = g i := by
  have hcp : ∀ (src : Nat → Int32), (∀ i, i < S.length → src i = nI (S.getD i 0)) → (∀ i, i < S.length → va_cpy src g 0 c S.length (c + i) = nI (S.getD i 0)) ∧ (∀ i, i < c → va_cpy src g 0 c S.length i = g i) ∧ ∀ i, c + S.length ≤ i → va_cpy src g 0 c S.length i = g i := fun src hs => ⟨fun i hi => by
    unfold va_cpy
    rw [if_pos (by omega), show 0 + (c + i - c) = i by omega, hs i hi], fun i hi => by
    unfold va_cpy
    rw [if_neg (by omega)], fun i hi => by
    unfold va_cpy
    rw [if_neg (by omega)]⟩
  have st7 := Str_7 st
  rcases st with ⟨i, x, k1, k2, rfl, rfl⟩ | ⟨v', u, w, f9, k1, k2, k3, k5, k4⟩
  · obtain ⟨a1, a2, a3, a4⟩ := ks_all ⟨i, k1⟩
    dsimp only at a1 a2 a3 a4
    have hcx : cix h s = some i := by
      unfold cix
      rw [k2.1]
      dsimp only
      rw [a2, if_pos ⟨rfl, k1⟩]
    have hl : ((zbyt.getD i []).map Int32.toNatClampNeg).length = (zbyt.getD i []).length := List.length_map _
    have hsrc : ∀ j, j < ((zbyt.getD i []).map Int32.toNatClampNeg).length → kby i j = nI (((zbyt.getD i []).map Int32.toNatClampNeg).getD j 0) := fun j hj => (of_decide_eq_true (List.all_eq_true.mp a4 j (List.mem_range.mpr (by omega)))).1
    refine ⟨va_cpy (kby i) g 0 c ((zbyt.getD i []).map Int32.toNatClampNeg).length, ?_, hcp (kby i) hsrc⟩
    unfold gbS
    rw [if_pos (show nI 0 = (0 : Int32) from rfl), hcx]
    dsimp only
    rw [h1]
    dsimp only
    rw [nI_clamp (by omega), a1, if_pos ⟨rfl, nI_nn (by omega), hd⟩]
  · have hcx : cix h s = none := by
      unfold cix
      rw [k1.1]
    have hdn : dyn h s = some (v', S.length, f9) := by
      have e1 : gA h s 13 0 = some v' := gA_of' k1.1 rfl
      have e2 : gI h s 13 1 = some 0 := gI_of' k1.1 rfl
      unfold dyn
      rw [e1, Option.bind_some, e2, Option.bind_some, if_pos rfl, k2.1]
      rfl
    refine ⟨va_cpy f9 g 0 c S.length, ?_, hcp f9 k4⟩
    unfold gbS
    rw [if_pos (show nI 0 = (0 : Int32) from rfl), hcx]
    dsimp only
    rw [hdn, Option.bind_some]
    exact cpB_of k2.1 h1 (Nat.le_refl _) hd (by omega) (fun i hi => ⟨_, st7 i, k4 i hi⟩)
def bW (sb v : Nat) : Nat → Prop := fun x => x = sb ∨ x = v
/-- room -/
theorem Sb_room {k : Nat} (q : SbAt h sb v L) (hk : k ≤ 64) (hkl : L.length ≤ k) : ∃ (h' : zH) (v' cap : Nat) (u : Value) (f : Nat → Int32), f_J5_ensureCapacityInternal_d00df N sb (nI k) h = some h' ∧ hM h' sb = some (.inr (14, [.ref v', .int (nI 0), u, .int (nI L.length)])) ∧ hM h' v' = some (.inl (2, cap, .inl f)) ∧ (sb ≠ v' ∧ (v' = v ∨ v' = hS h) ∧ sb < hS h' ∧ v' < hS h') ∧ (k ≤ cap ∧ cap ≤ 130) ∧ (∀ i, i < L.length → f i = nI (L.getD i 0)) ∧ (∀ i, i < cap → ∃ x, x < 128 ∧ f i = nI x) ∧ FC (fun x => x = sb) 1 130 h h' := by
  obtain ⟨cap, u, f, q1, q2, ⟨q3, q6, q7⟩, ⟨q8, q9⟩, q10, q11, q12⟩ := q
  have e0 : gA h sb 14 0 = some v := gA_of' q1 rfl
  have e1 : gI h sb 14 1 = some (nI 0) := gI_of' q1 rfl
  have l1 : aLen h v = some (nI cap) := aLen_of' q2 (by decide)
  by_cases hc : k ≤ cap
  · refine ⟨h, v, cap, u, f, ?_, q1, q2, ⟨q3, Or.inl rfl, q6, q7⟩, ⟨hc, q9⟩, q10, q11, FC_mono (W := nW) FC_rf (by omega) (by omega) (fun _ _ h => h.elim)⟩
    have c1 : (nI k - nI cap ≤ 0) = True := (sub_le0 (by omega) (by omega)).trans (eq_true hc)
    rw [f_J5_ensureCapacityInternal_d00df, e0, Option.bind_some, l1, Option.bind_some, e1, Option.bind_some, shr_0, if_pos (of_eq_true c1)]
  · have c1 : (nI k - nI cap ≤ 0) = False := (sub_le0 (by omega) (by omega)).trans (eq_false (by omega))
    have o14 : ∀ F : Option (Int32 × zH), onO 14 sb h F = F := fun F => onO_of' q1
    have hmx : max (k - cap) (cap + 2) = cap + 2 ∨ max (k - cap) (cap + 2) = k - cap := by omega
    generalize hmm : max (k - cap) (cap + 2) = mx at hmx
    have mx0 : k - cap ≤ mx ∧ 0 < mx ∧ cap + mx ≤ 130 := by omega
    have x1 : f_J9_max_7cf53 N (nI (k - cap)) (nI (cap + 2)) h = some (nI mx, h) := by rw [← hmm]; exact x_max (by omega) (by omega)
    have nl : f_J8_newLength_cabcc N (nI cap) (nI (k - cap)) (nI (cap + 2)) h = some (nI (cap + mx), h) := by
      rw [f_J8_newLength_cabcc, x1, Option.bind_some, nadd, show (0 : Int32) = nI 0 from rfl, if_neg (of_eq_false (nleF (by omega) (by omega))), show (2147483639 : Int32) = nI 2147483639 from rfl, if_neg (of_eq_false (nltF (by omega) (by omega)))]
    have nc : f_J5_newCapacity_0f7a4 N sb (nI k) h = some (nI (cap + mx), h) := by
      rw [f_J5_newCapacity_0f7a4, e0, Option.bind_some, l1, Option.bind_some, e1, Option.bind_some, Option.bind_some, shl_0, shl_0, nsub (by omega), show (2 : Int32) = nI 2 from rfl, nadd, nl, Option.bind_some, show (2147483647 : Int32) = nI 2147483647 from rfl, if_neg (of_eq_false (neqF (by omega) (by omega) (by omega)))]
      show (gI h sb 14 1).bind _ = _
      rw [e1, Option.bind_some, shr_0]
    have w1 : nwZ h (nI (cap + mx)) = _ := nwZ_of (by omega)
    have hm2 : ∀ {e : zE} {n : Nat}, hM (hNew h e n) v = some (.inl (2, cap, .inl f)) := fun {e n} => (hM_new_ne (by omega)).trans q2
    have l2 : ∀ {e : zE} {n : Nat}, aLen (hNew h e n) v = some (nI cap) := fun {e n} => aLen_of' hm2 (by decide)
    have mi := x_min (N := N) (x := cap) (y := cap + mx) (k := hNew h (.inl (2, cap + mx, .inl (fun _ => 0))) (cap + mx)) (by omega) (by omega)
    rw [Nat.min_eq_left (by omega)] at mi
    have cp := cpB_of (h := hNew h (.inl (2, cap + mx, .inl (fun _ => 0))) (cap + mx)) (a0 := v) (v := hS h) (dp := 0) (k := cap) hm2 hM_new_eq (Nat.le_refl _) (by omega) (by omega) q11
    rw [new_put] at cp
    have co : f_J7_copyOf_9075b N v (nI (cap + mx)) h = some (hS h, hNew h (.inl (2, cap + mx, .inl (va_cpy f (fun _ => 0) 0 0 cap))) (cap + mx)) := by
      rw [f_J7_copyOf_9075b, l1, Option.bind_some, if_neg (of_eq_false (neqF (by omega) (by omega) (by omega))), w1, Option.bind_some, l2, Option.bind_some, mi, Option.bind_some]
      show (cpB (hNew h (.inl (2, cap + mx, .inl (fun _ => 0))) (cap + mx)) v (nI 0) (hS h) (nI 0) (nI cap)).bind _ = _
      rw [cp, Option.bind_some]
    have f1 : FC nW 1 (cap + mx) h (hNew h (.inl (2, cap + mx, .inl (va_cpy f (fun _ => 0) 0 0 cap))) (cap + mx)) := FC_new
    have q1' : hM (hNew h (.inl (2, cap + mx, .inl (va_cpy f (fun _ => 0) 0 0 cap))) (cap + mx)) sb = some (.inr (14, [.ref v, .int (nI 0), u, .int (nI L.length)])) := (hM_new_ne (by omega)).trans q1
    have p1 : pF (hNew h (.inl (2, cap + mx, .inl (va_cpy f (fun _ => 0) 0 0 cap))) (cap + mx)) sb 14 0 (.ref (hS h)) = some (hPut (hNew h (.inl (2, cap + mx, .inl (va_cpy f (fun _ => 0) 0 0 cap))) (cap + mx)) sb (.inr (14, [.ref (hS h), .int (nI 0), u, .int (nI L.length)]))) := pF_of' q1' (by show 0 < 4; decide)
    have f2 : FC (fun x => x = sb) 0 0 (hNew h (.inl (2, cap + mx, .inl (va_cpy f (fun _ => 0) 0 0 cap))) (cap + mx)) (hPut (hNew h (.inl (2, cap + mx, .inl (va_cpy f (fun _ => 0) 0 0 cap))) (cap + mx)) sb (.inr (14, [.ref (hS h), .int (nI 0), u, .int (nI L.length)]))) := FC_put
    refine ⟨_, hS h, cap + mx, u, va_cpy f (fun _ => 0) 0 0 cap, ?_, hM_put_eq, (hM_put_ne (by omega)).trans hM_new_eq, ⟨by omega, Or.inr rfl, ?_, ?_⟩, ⟨by omega, by omega⟩, fun i hi => ?_, fun i hi => ?_, FC_mono (FC_tr (FC_mono (W' := fun x => x = sb) f1 (Nat.le_refl _) (Nat.le_refl _) (fun _ _ h => h.elim)) f2) (by omega) (by omega) (fun _ _ h => h)⟩
    · rw [f_J5_ensureCapacityInternal_d00df, e0, Option.bind_some, l1, Option.bind_some, e1, Option.bind_some, shr_0, if_neg (of_eq_false c1), Option.bind_some, o14, nc, Option.bind_some]
      show (gI h sb 14 1).bind _ = _
      rw [e1, Option.bind_some, shl_0, co, Option.bind_some, p1, Option.bind_some]
    · show sb < hS h + 1; omega
    · show hS h < hS h + 1; omega
    · rw [va_cpy0, if_pos (by omega)]; exact q10 i hi
    · rw [va_cpy0]
      by_cases hic : i < cap
      · rw [if_pos hic]; exact q11 i hic
      · rw [if_neg hic]; exact ⟨0, by omega, rfl⟩
end M81

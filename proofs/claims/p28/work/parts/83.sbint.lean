/-! ===== a number goes in ===== -/
section M83
variable {h h' : zH} {N n bs sb v cap c : Nat} {f g : Nat → Int32} {L : List Nat} {u : Value}
theorem neg_le {x y : Nat} (hx : x < 2 ^ 30) (hy : y < 2 ^ 30) : (-nI x ≤ -nI y) = (y ≤ x) := propext (by
  rw [Int32.le_iff_toInt_le, Int32.toInt_neg, Int32.toInt_neg, nI_toInt (by omega), nI_toInt (by omega), Int.bmod_eq_of_le (by omega) (by omega), Int.bmod_eq_of_le (by omega) (by omega)]
  omega)
theorem neg_lt' {x y : Nat} (hx : x < 2 ^ 30) (hy : y < 2 ^ 30) : (-nI x < -nI y) = (y < x) := propext (by
  rw [Int32.lt_iff_toInt_lt, Int32.toInt_neg, Int32.toInt_neg, nI_toInt (by omega), nI_toInt (by omega), Int.bmod_eq_of_le (by omega) (by omega), Int.bmod_eq_of_le (by omega) (by omega)]
  omega)
theorem neg_int {x : Nat} (hx : x < 2 ^ 30) : (-nI x).toInt = -(x : Int) := by
  rw [Int32.toInt_neg, nI_toInt (by omega), Int.bmod_eq_of_le (by omega) (by omega)]
theorem neg_div {x : Nat} (hx : x < 10000) : zdivI (-nI x) (nI 100) = some (-nI (x / 100)) := by
  unfold zdivI
  rw [if_neg (by decide)]
  congr 1
  apply Int32.toInt_inj.mp
  rw [Int32.toInt_div, neg_int (by omega), neg_int (by omega), nI_toInt (by omega), Int.neg_tdiv]
  have e : ((x : Int)).tdiv ((100 : Nat) : Int) = ((x / 100 : Nat) : Int) := rfl
  rw [e, Int.bmod_eq_of_le (by omega) (by omega)]
theorem neg_rem {x : Nat} (hx : x < 10000) : (-nI (x / 100)) * nI 100 - (-nI x) = nI (x % 100) := by
  rw [Int32.neg_mul, nmul, Int32.sub_neg, Int32.add_comm, ← Int32.sub_eq_add_neg, nsub (by omega)]
  congr 1
  omega
theorem neg_sb {x : Nat} : -(-nI x) = nI x := Int32.neg_neg
theorem D1_of {i : Nat} (hi : i < 100) : ldD1 (nI i) = some (nI (48 + i % 10)) := by
  unfold ldD1
  rw [nI_clamp (by omega), if_pos ⟨nI_nn (by omega), hi⟩]
  rfl
theorem D2_of {i : Nat} (hi : i < 100) : ldD2 (nI i) = some (nI (48 + i / 10)) := by
  unfold ldD2
  rw [nI_clamp (by omega), if_pos ⟨nI_nn (by omega), hi⟩]
  rfl
/-- the size of a number -/
def szN (n : Nat) : Nat := if n < 10 then 1 else if n < 100 then 2 else if n < 1000 then 3 else 4
theorem sz_dig (hn : n < 10000) : (digX n).length = szN n := by
  unfold digX szN
  split
  · rfl
  · split
    · rfl
    · split
      · rfl
      · rfl
theorem sz_l16 {k1 : zH → Option (Int32 × zH)} {k2 : Int32 → zH → Option (Int32 × zH)} {p i fu : Nat} (hn : n < 10000) (hp : p < 2 ^ 20) (hi : i < 10) : f_J6_stringSize_0f7a4_l16 N (-nI n) (nI 0) k1 k2 (fu + 1) (-nI p) (nI i) h = if p ≤ n then f_J6_stringSize_0f7a4_l16 N (-nI n) (nI 0) k1 k2 fu (-nI (10 * p)) (nI (i + 1)) h else k2 (nI i) h := by
  rw [f_J6_stringSize_0f7a4_l16, show (10 : Int32) = nI 10 from rfl, if_neg (of_eq_false (nleF (by omega) hi)), show (1 : Int32) = nI 1 from rfl, nadd, Int32.mul_neg, nmul]
  by_cases hc : p ≤ n
  · rw [if_pos (of_eq_true ((neg_le (by omega) (by omega)).trans (eq_true hc))), if_pos hc]
  · rw [if_neg (of_eq_false ((neg_le (by omega) (by omega)).trans (eq_false hc))), if_neg hc]
theorem sz_of (hNN : 1000 < N) (hn : n < 10000) : f_J6_stringSize_0f7a4 N (nI n) h = some (nI (szN n), h) := by
  obtain ⟨f, rfl⟩ : ∃ f, N = f + 1 + 1 + 1 + 1 := ⟨N - 4, by omega⟩
  rw [f_J6_stringSize_0f7a4, if_neg (nI_nn (by omega)), f_J6_stringSize_0f7a4_j11, show (0 : Int32) = nI 0 from rfl, show (-10 : Int32) = -nI 10 from rfl, show (1 : Int32) = nI 1 from rfl]
  unfold szN
  rw [sz_l16 hn (by omega) (by omega)]
  by_cases h1 : n < 10
  · rw [if_neg (by omega), if_pos h1, nadd]
  · rw [if_pos (by omega), if_neg h1, sz_l16 hn (by omega) (by omega)]
    by_cases h2 : n < 100
    · rw [if_neg (by omega), if_pos h2, nadd]
    · rw [if_pos (by omega), if_neg h2, sz_l16 hn (by omega) (by omega)]
      by_cases h3 : n < 1000
      · rw [if_neg (by omega), if_pos h3, nadd]
      · rw [if_pos (by omega), if_neg h3, sz_l16 hn (by omega) (by omega), if_neg (by omega), nadd]
/-- the digits are written backwards -/
theorem gch (hNN : 1000 < N) (hn : n < 10000) (hm : hM h v = some (.inl (2, cap, .inl f))) (hc : c + szN n ≤ cap) (hc2 : cap ≤ 130) : ∃ f', f_J6_getChars_ba4f3 N (nI n) (nI (c + szN n)) v h = some (nI c, hPut h v (.inl (2, cap, .inl f'))) ∧ (∀ i, i < szN n → f' (c + i) = nI ((digX n).getD i 0)) ∧ (∀ i, i < c → f' i = f i) ∧ ∀ i, c + szN n ≤ i → f' i = f i := by
  obtain ⟨fu, rfl⟩ : ∃ fu, N = fu + 1 + 1 := ⟨N - 2, by omega⟩
  have st : ∀ (g : Nat → Int32) (i x : Nat), i < cap → x < 128 → stZ (hPut h v (.inl (2, cap, .inl g))) v (nI i) (nI x) = some (hPut h v (.inl (2, cap, .inl (upd g i (nI x))))) := fun g i x hi hx => by rw [stZ_of' hM_put_eq hi hc2 hx, put_put]
  have st0 : ∀ (i x : Nat), i < cap → x < 128 → stZ h v (nI i) (nI x) = some (hPut h v (.inl (2, cap, .inl (upd f i (nI x))))) := fun i x hi hx => stZ_of' hm hi hc2 hx
  have ent : f_J6_getChars_ba4f3 (fu + 1 + 1) (nI n) (nI (c + szN n)) v h = f_J6_getChars_ba4f3_j22 (fu + 1 + 1) (-nI n) v (nI (c + szN n)) (nI 0) h := by
    rw [f_J6_getChars_ba4f3, show (0 : Int32) = nI 0 from rfl, if_pos (of_eq_true (nleT (by omega) (Nat.zero_le _))), if_pos rfl]
  rw [ent, f_J6_getChars_ba4f3_j22, f_J6_getChars_ba4f3_l22]
  have nm : (-1 : Int32) = -nI 1 := rfl
  by_cases h1 : n < 10
  · have hs : szN n = 1 := if_pos h1
    rw [hs] at hc ⊢
    have hd : digX n = [48 + n] := by unfold digX; rw [if_pos h1]
    refine ⟨upd f c (nI (48 + n % 10)), ?_, fun i hi => ?_, fun i hi => upS_ne (by omega), fun i hi => upS_ne (by omega)⟩
    · rw [show (-100 : Int32) = -nI 100 from rfl, if_pos (of_eq_true ((neg_lt' (by omega) (by omega)).trans (eq_true (by omega)))), neg_sb, D1_of (by omega), Option.bind_some, nm, npred, st0 c _ (by omega) (by omega), Option.bind_some, show (-9 : Int32) = -nI 9 from rfl, if_pos (of_eq_true ((neg_le (by omega) (by omega)).trans (eq_true (by omega)))), f_J6_getChars_ba4f3_j104, if_pos (show nI 0 = (0 : Int32) from rfl)]
    · have : i = 0 := by omega
      subst this
      rw [hd]
      show upd f c _ c = _
      rw [upS_eq, show n % 10 = n by omega]
      rfl
  · by_cases h2 : n < 100
    · have hs : szN n = 2 := by unfold szN; rw [if_neg h1, if_pos h2]
      rw [hs] at hc ⊢
      have hd : digX n = [48 + n / 10, 48 + n % 10] := by unfold digX; rw [if_neg h1, if_pos h2]
      refine ⟨upd (upd f (c + 1) (nI (48 + n % 10))) c (nI (48 + n / 10)), ?_, fun i hi => ?_, fun i hi => by rw [upS_ne (by omega), upS_ne (by omega)], fun i hi => by rw [upS_ne (by omega), upS_ne (by omega)]⟩
      · rw [show (-100 : Int32) = -nI 100 from rfl, if_pos (of_eq_true ((neg_lt' (by omega) (by omega)).trans (eq_true (by omega)))), neg_sb, D1_of (by omega), Option.bind_some, nm, npred (c + 1), st0 (c + 1) _ (by omega) (by omega), Option.bind_some, show (-9 : Int32) = -nI 9 from rfl, if_neg (of_eq_false ((neg_le (by omega) (by omega)).trans (eq_false (by omega)))), D2_of (by omega), Option.bind_some, npred c, st _ c _ (by omega) (by omega), Option.bind_some, f_J6_getChars_ba4f3_j104, if_pos (show nI 0 = (0 : Int32) from rfl)]
      · rw [hd]
        rcases (show i = 0 ∨ i = 1 by omega) with rfl | rfl
        · show upd _ c _ c = _
          rw [upS_eq]; rfl
        · rw [upS_ne (by omega), upS_eq]; rfl
    · have hq : n / 100 < 100 := by omega
      by_cases h3 : n < 1000
      · have hs : szN n = 3 := by unfold szN; rw [if_neg h1, if_neg h2, if_pos h3]
        rw [hs] at hc ⊢
        have hd : digX n = [48 + n / 100, 48 + n / 10 % 10, 48 + n % 10] := by unfold digX; rw [if_neg h1, if_neg h2, if_pos h3]
        refine ⟨upd (upd (upd f (c + 2) (nI (48 + n % 100 % 10))) (c + 1) (nI (48 + n % 100 / 10))) c (nI (48 + n / 100 % 10)), ?_, fun i hi => ?_, fun i hi => by rw [upS_ne (by omega), upS_ne (by omega), upS_ne (by omega)], fun i hi => by rw [upS_ne (by omega), upS_ne (by omega), upS_ne (by omega)]⟩
        · rw [show (-100 : Int32) = -nI 100 from rfl, if_neg (of_eq_false ((neg_lt' (by omega) (by omega)).trans (eq_false (by omega)))), show (100 : Int32) = nI 100 from rfl, neg_div hn, Option.bind_some, neg_rem hn, D1_of (by omega), Option.bind_some, nm, npred (c + 2), st0 (c + 2) _ (by omega) (by omega), Option.bind_some, D2_of (by omega), Option.bind_some, npred (c + 1), st _ (c + 1) _ (by omega) (by omega), Option.bind_some, f_J6_getChars_ba4f3_l22, show (-100 : Int32) = -nI 100 from rfl, if_pos (of_eq_true ((neg_lt' (by omega) (by omega)).trans (eq_true (by omega)))), neg_sb, D1_of (by omega), Option.bind_some, npred c, st _ c _ (by omega) (by omega), Option.bind_some, show (-9 : Int32) = -nI 9 from rfl, if_pos (of_eq_true ((neg_le (by omega) (by omega)).trans (eq_true (by omega)))), f_J6_getChars_ba4f3_j104, if_pos (show nI 0 = (0 : Int32) from rfl)]
        · rw [hd]
          rcases (show i = 0 ∨ i = 1 ∨ i = 2 by omega) with rfl | rfl | rfl
          · show upd _ c _ c = _
            rw [upS_eq, show n / 100 % 10 = n / 100 by omega]; rfl
          · rw [upS_ne (by omega), upS_eq, show n % 100 / 10 = n / 10 % 10 by omega]; rfl
          · rw [upS_ne (by omega), upS_ne (by omega), upS_eq, show n % 100 % 10 = n % 10 by omega]; rfl
      · have hs : szN n = 4 := by unfold szN; rw [if_neg h1, if_neg h2, if_neg h3]
        rw [hs] at hc ⊢
        have hd : digX n = [48 + n / 1000, 48 + n / 100 % 10, 48 + n / 10 % 10, 48 + n % 10] := by unfold digX; rw [if_neg h1, if_neg h2, if_neg h3, if_pos hn]
        refine ⟨upd (upd (upd (upd f (c + 3) (nI (48 + n % 100 % 10))) (c + 2) (nI (48 + n % 100 / 10))) (c + 1) (nI (48 + n / 100 % 10))) c (nI (48 + n / 100 / 10)), ?_, fun i hi => ?_, fun i hi => by rw [upS_ne (by omega), upS_ne (by omega), upS_ne (by omega), upS_ne (by omega)], fun i hi => by rw [upS_ne (by omega), upS_ne (by omega), upS_ne (by omega), upS_ne (by omega)]⟩
        · rw [show (-100 : Int32) = -nI 100 from rfl, if_neg (of_eq_false ((neg_lt' (by omega) (by omega)).trans (eq_false (by omega)))), show (100 : Int32) = nI 100 from rfl, neg_div hn, Option.bind_some, neg_rem hn, D1_of (by omega), Option.bind_some, nm, npred (c + 3), st0 (c + 3) _ (by omega) (by omega), Option.bind_some, D2_of (by omega), Option.bind_some, npred (c + 2), st _ (c + 2) _ (by omega) (by omega), Option.bind_some, f_J6_getChars_ba4f3_l22, show (-100 : Int32) = -nI 100 from rfl, if_pos (of_eq_true ((neg_lt' (by omega) (by omega)).trans (eq_true (by omega)))), neg_sb, D1_of (by omega), Option.bind_some, npred (c + 1), st _ (c + 1) _ (by omega) (by omega), Option.bind_some, show (-9 : Int32) = -nI 9 from rfl, if_neg (of_eq_false ((neg_le (by omega) (by omega)).trans (eq_false (by omega)))), D2_of (by omega), Option.bind_some, npred c, st _ c _ (by omega) (by omega), Option.bind_some, f_J6_getChars_ba4f3_j104, if_pos (show nI 0 = (0 : Int32) from rfl)]
        · rw [hd]
          rcases (show i = 0 ∨ i = 1 ∨ i = 2 ∨ i = 3 by omega) with rfl | rfl | rfl | rfl
          · show upd _ c _ c = _
            rw [upS_eq, show n / 100 / 10 = n / 1000 by omega]; rfl
          · rw [upS_ne (by omega), upS_eq]; rfl
          · rw [upS_ne (by omega), upS_ne (by omega), upS_eq, show n % 100 / 10 = n / 10 % 10 by omega]; rfl
          · rw [upS_ne (by omega), upS_ne (by omega), upS_ne (by omega), upS_eq, show n % 100 % 10 = n % 10 by omega]; rfl
theorem dig_7 (hn : n < 100000) : By7 (digX n) := fun i => by
  obtain ⟨d1, d2, d3, d4⟩ := digX_ok hn
  by_cases hi : i < (digX n).length
  · have hm : (digX n).getD i 0 ∈ digX n := by
      rw [List.getD_eq_getElem?_getD, List.getElem?_eq_getElem hi]
      exact List.getElem_mem hi
    have h1 := d2 _ hm
    by_cases h9 : (digX n).getD i 0 < 128
    · exact h9
    · exfalso
      unfold isDg at h1
      rw [Bool.and_eq_true, Nat.ble_eq, Nat.ble_eq] at h1
      omega
  · rw [getD_out (by omega)]; omega
theorem Sb_int (hNN : 1000 < N) (q : SbAt h sb v L) (hn : n < 10000) (hl : L.length ≤ 60) : ∃ h' v', f_J4_append_bf812 N sb (nI n) h = some (sb, h') ∧ SbAt h' sb v' (L ++ digX n) ∧ (v' = v ∨ v' = hS h) ∧ FC (bW sb v) 1 130 h h' := by
  have q0 := q
  have hsz : szN n ≤ 4 := by unfold szN; split <;> (try split) <;> (try split) <;> omega
  obtain ⟨cap0, u0, f0, q1, q2, q3, q4, q5, q6, q7⟩ := id q
  have hv0 := q3.2.2
  have c1 : gI h sb 14 3 = some (nI L.length) := gI_of' q1 rfl
  obtain ⟨h1, v1, cap, u, f, r1, r2, r3, ⟨r4, r5, r7, r8⟩, ⟨r9, r10⟩, r11, r12, r13⟩ := Sb_room (N := N) (k := L.length + szN n) q (by omega) (by omega)
  obtain ⟨f', g1, g2, g3, g4⟩ := gch (N := N) (c := L.length) hNN hn r3 r9 r10
  have d2 : gI h1 sb 14 1 = some (nI 0) := gI_of' r2 rfl
  have d3 : gA h1 sb 14 0 = some v1 := gA_of' r2 rfl
  have o0 : ∀ F : Option (Nat × zH), onO 14 sb h F = F := fun F => Sb_o14 q0
  have o0' : ∀ F : Option zH, onO 14 sb h F = F := fun F => Sb_o14 q0
  have o1 : ∀ F : Option (Int32 × zH), onO 14 sb h1 F = F := fun F => onO_of' r2
  have m2 : hM (hPut h1 v1 (.inl (2, cap, .inl f'))) sb = some (.inr (14, [.ref v1, .int (nI 0), u, .int (nI L.length)])) := (hM_put_ne r4).trans r2
  have p1 : pF (hPut h1 v1 (.inl (2, cap, .inl f'))) sb 14 3 (.int (nI (L.length + szN n))) = some (hPut (hPut h1 v1 (.inl (2, cap, .inl f'))) sb (.inr (14, [.ref v1, .int (nI 0), u, .int (nI (L.length + szN n))]))) := pF_of' m2 (by show 3 < 4; decide)
  have F1 : FC (fun x => x = v1) 0 0 h1 (hPut h1 v1 (.inl (2, cap, .inl f'))) := FC_put
  have F2 : FC (fun x => x = sb) 0 0 (hPut h1 v1 (.inl (2, cap, .inl f'))) (hPut (hPut h1 v1 (.inl (2, cap, .inl f'))) sb (.inr (14, [.ref v1, .int (nI 0), u, .int (nI (L.length + szN n))]))) := FC_put
  have hdl := sz_dig hn
  have hLl : (L ++ digX n).length = L.length + szN n := by rw [List.length_append, hdl]
  refine ⟨_, v1, ?_, ⟨cap, u, f', by rw [hLl]; exact hM_put_eq, (hM_put_ne (Ne.symm r4)).trans hM_put_eq, ⟨r4, r7, r8⟩, ⟨by omega, r10⟩, fun i hi => ?_, fun i hi => ?_, By7_app q7 (dig_7 (by omega))⟩, r5, FC_mono (FC_tr (FC_mono (W' := bW sb v1) r13 (Nat.le_refl _) (Nat.le_refl _) (fun _ _ h => Or.inl h)) (FC_tr (FC_mono (W' := bW sb v1) F1 (Nat.le_refl _) (Nat.le_refl _) (fun _ _ h => Or.inr h)) (FC_mono (W' := bW sb v1) F2 (Nat.le_refl _) (Nat.le_refl _) (fun _ _ h => Or.inl h)))) (by omega) (by omega) (fun x hx hw => by rcases hw with hw | hw; exact Or.inl hw; rcases r5 with r5 | r5; exact Or.inr (hw.trans r5); omega)⟩
  · have la : f_J5_isLatin1_aae02 N sb h1 = some ((1 : Int32), h1) := by rw [f_J5_isLatin1_aae02, if_neg (by decide), d2, Option.bind_some, if_pos (show nI 0 = (0 : Int32) from rfl)]
    have ap : f_J5_append_c97b9 N sb (nI n) h = some (sb, hPut (hPut h1 v1 (.inl (2, cap, .inl f'))) sb (.inr (14, [.ref v1, .int (nI 0), u, .int (nI (L.length + szN n))]))) := by
      rw [f_J5_append_c97b9, c1, Option.bind_some, sz_of hNN hn, Option.bind_some, o0', nadd, r1, Option.bind_some, o1, la, Option.bind_some, if_neg (show ¬ (1 : Int32) = 0 by decide), d3, Option.bind_some, g1, Option.bind_some, p1, Option.bind_some]
    rw [f_J4_append_bf812, o0, ap, Option.bind_some]
  · rw [hLl] at hi
    by_cases hi2 : i < L.length
    · rw [g3 i hi2, r11 i hi2, getD_l hi2]
    · obtain ⟨j, rfl⟩ : ∃ j, i = L.length + j := ⟨i - L.length, by omega⟩
      rw [g2 j (by omega), getD_r]
  · by_cases hi2 : i < L.length
    · rw [g3 i hi2]; exact r12 i hi
    · by_cases hi3 : i < L.length + szN n
      · obtain ⟨j, rfl⟩ : ∃ j, i = L.length + j := ⟨i - L.length, by omega⟩
        rw [g2 j (by omega)]
        exact ⟨_, dig_7 (show n < 100000 by omega) j, rfl⟩
      · rw [g4 i (by omega)]; exact r12 i hi
end M83

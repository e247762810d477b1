/-! ===== the text in the buffers ===== -/
def WrAt (M : Nat → Prop) (b0 bu : Nat) (h : zH) (d : Nat → Nat) (K : Nat) (t : Nat → Nat) (yy : Nat × (Nat → Nat → Nat) × (Nat → Nat) × (Nat → Nat → Nat)) (ea : Int32) (L : List Nat) : Prop := (∃ B : Nat → Int32, WC b0 h (d, K, t, yy, ea, L.length / 20 * 20, B) ∧ ∀ i, i < L.length / 20 * 20 → B i = nI (L.getD i 0)) ∧ BufAt h bu L (L.length / 20 * 20) ∧ AllB L ∧ ((bu < b0 ∨ b0 + 395 ≤ bu) ∧ bu + 1 < hS h) ∧ (∃ sd : Int32, hM h (bu + 1) = some (.inr (11, [.int sd]))) ∧ (∀ x, wrW b0 bu x → M x) ∧ (bu + 1 < b0 ∨ b0 + 395 ≤ bu + 1)
def StrAt (M : Nat → Prop) (h : zH) (s : Nat) (S : List Nat) : Prop := (∃ i x, i < 20 ∧ IM M h s (.inr (15, [.int x])) ∧ x = Int32.ofNat i ∧ S = (zbyt.getD i []).map Int32.toNatClampNeg) ∨ (∃ (v : Nat) (u w : Value) (f : Nat → Int32), IM M h s (.inr (13, [.ref v, .int 0, u, w])) ∧ IM M h v (.inl (2, S.length, .inl f)) ∧ (∀ i, S.getD i 0 < 128) ∧ S.length < 1000 ∧ ∀ i, i < S.length → f i = nI (S.getD i 0))
section M77
variable {M W : Nat → Prop} {h h' : zH} {b0 bu K N z m : Nat} {ea : Int32} {d : Nat → Nat} {t : Nat → Nat} {yy : Nat × (Nat → Nat → Nat) × (Nat → Nat) × (Nat → Nat → Nat)} {B : Nat → Int32} {L S : List Nat} {c s cc : Nat}
theorem ks_all : ∀ i : Fin 20, zlen.getD i.val 0 = ((zbyt.getD i.val []).map Int32.toNatClampNeg).length ∧ (Int32.ofNat i.val).toNatClampNeg = i.val ∧ (zbyt.getD i.val []).length < 1000 ∧ (List.range (zbyt.getD i.val []).length).all (fun j => decide ((zbyt.getD i.val []).getD j 0 = nI (((zbyt.getD i.val []).map Int32.toNatClampNeg).getD j 0) ∧ ((zbyt.getD i.val []).map Int32.toNatClampNeg).getD j 0 < 256)) = true := by decide +kernel
theorem StrAt_fc {n : Nat} (q : StrAt M h s S) (f : FC W n m h h') (hw : ∀ y, W y → M y) : StrAt M h' s S := by
  rcases q with ⟨i, x, h1, h2, h3⟩ | ⟨v, u, w, f9, h1, h2, h3⟩
  · exact Or.inl ⟨i, x, h1, IM_fc h2 f hw (fun σ e => by cases e), h3⟩
  · exact Or.inr ⟨v, u, w, f9, IM_fc h1 f hw (fun σ e => by cases e), IM_fc h2 f hw (fun σ e => by cases e), h3⟩
theorem StrAt_M {M' : Nat → Prop} (q : StrAt M h s S) (hm : ∀ y, y < hS h → M' y → M y) : StrAt M' h s S := by
  rcases q with ⟨i, x, h1, h2, h3⟩ | ⟨v, u, w, f9, h1, h2, h3⟩
  · exact Or.inl ⟨i, x, h1, IM_M h2 hm, h3⟩
  · exact Or.inr ⟨v, u, w, f9, IM_M h1 hm, IM_M h2 hm, h3⟩
theorem Str_ln (q : StrAt M h s S) : lnA h s = some (nI S.length) ∧ AllB S ∧ S.length < 1000 ∧ ∀ j, j < S.length → chA h s (nI j) = some (nI (S.getD j 0)) := by
  rcases q with ⟨i, x, h1, h2, rfl, rfl⟩ | ⟨v, u, w, f9, h1, h2, h3, h5, h4⟩
  · obtain ⟨k1, k2, k3, k4⟩ := ks_all ⟨i, h1⟩
    dsimp only at k1 k2 k3 k4
    have hc : cix h s = some i := by
      unfold cix
      rw [h2.1]
      dsimp only
      rw [k2, if_pos ⟨rfl, h1⟩]
    have hl : ((zbyt.getD i []).map Int32.toNatClampNeg).length = (zbyt.getD i []).length := List.length_map _
    have ha : ∀ j, j < (zbyt.getD i []).length → (zbyt.getD i []).getD j 0 = nI (((zbyt.getD i []).map Int32.toNatClampNeg).getD j 0) ∧ ((zbyt.getD i []).map Int32.toNatClampNeg).getD j 0 < 256 := fun j hj => of_decide_eq_true (List.all_eq_true.mp k4 j (List.mem_range.mpr hj))
    refine ⟨?_, fun j => ?_, by rw [hl]; exact k3, fun j hj => ?_⟩
    · unfold lnA
      rw [hc]
      dsimp only
      rw [k1]
      rfl
    · by_cases hj : j < (zbyt.getD i []).length
      · exact (ha j hj).2
      · rw [getD_out (by rw [hl]; omega)]
        omega
    · rw [hl] at hj
      unfold chA
      rw [hc]
      dsimp only
      rw [nI_clamp (by omega), if_pos ⟨nI_nn (by omega), by rw [k1, hl]; exact hj⟩, (ha j hj).1]
  · have hc : cix h s = none := by
      unfold cix
      rw [h1.1]
    have hd : dyn h s = some (v, S.length, f9) := by
      have e1 : gA h s 13 0 = some v := gA_of' h1.1 rfl
      have e2 : gI h s 13 1 = some 0 := gI_of' h1.1 rfl
      unfold dyn
      rw [e1, Option.bind_some, e2, Option.bind_some, if_pos rfl, h2.1]
      rfl
    refine ⟨?_, fun i => Nat.lt_of_lt_of_le (h3 i) (by omega), h5, fun j hj => ?_⟩
    · unfold lnA
      rw [hc]
      dsimp only
      rw [hd]
      rfl
    · have hb : S.getD j 0 < 256 := Nat.lt_of_lt_of_le (h3 j) (by omega)
      have ok : chOK (f9 j) := by
        rw [h4 j hj]
        generalize S.getD j 0 = x at hb
        have : ∀ x : Fin 256, chOK (nI x.val) := by decide +kernel
        exact this ⟨x, hb⟩
      unfold chA
      rw [hc]
      dsimp only
      rw [hd, Option.bind_some]
      dsimp only
      rw [nI_clamp (by omega), if_pos ⟨⟨nI_nn (by omega), hj⟩, nI_ltI (by omega) (by omega) |>.mpr hj, ok⟩, h4 j hj]
theorem Wr_buf {f' : Nat → Int32} (q : WrAt M b0 bu h d K t yy ea L) : FC (fun x => x = bu) 0 0 h (hPut h bu (.inl (0, 8, .inl f'))) ∧ ∀ B z, WC b0 h (d, K, t, yy, ea, z, B) → WC b0 (hPut h bu (.inl (0, 8, .inl f'))) (d, K, t, yy, ea, z, B) := by
  obtain ⟨-, ⟨f, q1, -⟩, -, ⟨q3, q4⟩, ⟨sd, q5⟩, q6, q7⟩ := q
  refine ⟨FC_put, fun B z hW => WC_fc hW FC_put (fun y hy => by rw [hy]; exact q3) (fun y hy hyb => ?_)⟩
  subst hyb
  refine ⟨fun fs h9 => ?_, fun σ h9 => ?_, fun n g _ _ σ h9 => ?_⟩
  · rw [q1] at h9; cases h9
  · rw [q1] at h9; cases h9
  · rw [q5] at h9; cases h9
theorem Wr_mk {f' : Nat → Int32} {L' : List Nat} (q : WrAt M b0 bu h d K t yy ea L) (hz : L'.length / 20 * 20 = L.length / 20 * 20) (hB : ∀ i, i < L.length / 20 * 20 → L'.getD i 0 = L.getD i 0) (h1 : f' 0 = nI L'.length) (h2 : ∀ k, k < 5 → f' (1 + k) = nI (wdW L' (L.length / 20 * 20) k)) (h3 : AllB L') : WrAt M b0 bu (hPut h bu (.inl (0, 8, .inl f'))) d K t yy ea L' := by
  obtain ⟨w1, w2⟩ := Wr_buf (f' := f') q
  obtain ⟨⟨B, q0, q00⟩, -, -, ⟨q3, q4⟩, ⟨sd, q5⟩, q6, q7⟩ := q
  refine ⟨⟨B, by rw [hz]; exact w2 _ _ q0, fun i hi => by rw [hz] at hi; rw [q00 i hi, hB i hi]⟩, ⟨f', hM_put_eq, h1, fun k hk => by rw [hz]; exact h2 k hk⟩, h3, ⟨q3, q4⟩, ⟨sd, (hM_put_ne (by omega)).trans q5⟩, q6, q7⟩
theorem fl_l : ∀ (r k fu : Nat) (f : Nat → Int32) (h : zH), k + r = 6 → r < fu → hM h bu = some (.inl (0, 8, .inl f)) → ∃ f', f_L_flush_l22 N bu fu (nI k) h = some (hPut h bu (.inl (0, 8, .inl f'))) ∧ (∀ j, k ≤ j → j < 6 → f' j = nI 0) ∧ ∀ j, j < k → f' j = f j := by
  intro r
  induction r with
  | zero =>
    intro k fu f h hk hf hm
    obtain ⟨fu, rfl⟩ : ∃ n, fu = n + 1 := ⟨fu - 1, by omega⟩
    refine ⟨f, ?_, fun j h1 h2 => absurd h1 (by omega), fun j _ => rfl⟩
    rw [f_L_flush_l22, put_self hm]
    simp (disch := omega) only [nlit, nleT, ↓reduceIte]
  | succ r ih =>
    intro k fu f h hk hf hm
    obtain ⟨fu, rfl⟩ : ∃ n, fu = n + 1 := ⟨fu - 1, by omega⟩
    have e1 : stI h bu (nI k) (nI 0) = some (hPut h bu (.inl (0, 8, .inl (upd f k (nI 0))))) := stI_of' hm (by omega) (by omega)
    obtain ⟨f', i1, i2, i3⟩ := ih (k + 1) fu (upd f k (nI 0)) (hPut h bu (.inl (0, 8, .inl (upd f k (nI 0))))) (by omega) (by omega) hM_put_eq
    refine ⟨f', ?_, fun j h1 h2 => ?_, fun j hj => ?_⟩
    · rw [f_L_flush_l22]
      simp (disch := omega) only [nlit, nleF, e1, nadd, i1, put_put, Option.bind_some, ↓reduceIte]
    · by_cases hjk : j = k
      · rw [i3 j (by omega), hjk]; exact upS_eq _ _ _
      · exact i2 j (by omega) h2
    · rw [i3 j (by omega)]; exact upS_ne (by omega)
/-- the buffer is emptied into the class's -/
theorem Wr_flush {f : Nat → Int32} (hNN : 1400 < N) (hW : WC b0 h (d, K, t, yy, ea, z, B)) (hz : z + 20 ≤ 700) (hB : ∀ i, i < z → B i = nI (L.getD i 0)) (hm : hM h bu = some (.inl (0, 8, .inl f))) (hf : ∀ k, k < 5 → f (1 + k) = nI (wdW L z k)) (hL : AllB L) (q3 : bu < b0 ∨ b0 + 395 ≤ bu) (q4 : bu + 1 < hS h) (q5 : ∃ sd : Int32, hM h (bu + 1) = some (.inr (11, [.int sd]))) (q7 : bu + 1 < b0 ∨ b0 + 395 ≤ bu + 1) : ∃ h' B' f', f_L_flush N b0 bu h = some h' ∧ WC b0 h' (d, K, t, yy, ea, z + 20, B') ∧ (∀ i, i < z + 20 → B' i = nI (L.getD i 0)) ∧ hM h' bu = some (.inl (0, 8, .inl f')) ∧ f' 0 = f 0 ∧ (∀ k, k < 5 → f' (1 + k) = nI 0) ∧ FC (wrW b0 bu) 0 0 h h' ∧ ∃ sd : Int32, hM h' (bu + 1) = some (.inr (11, [.int sd])) := by
  obtain ⟨sd, q5⟩ := q5
  have hGo : hM h b0 = _ := hW.1.1.1
  obtain ⟨h1, a1, a2, a3⟩ := C_append (N := N) (by omega) hW (nI (wdW L z 0)) (nI (wdW L z 1)) (nI (wdW L z 2)) (nI (wdW L z 3)) (nI (wdW L z 4)) hz
  have hm1 : hM h1 bu = some (.inl (0, 8, .inl f)) := cell_fc hm (by omega) a3 (fun hx => by have := hx.1; have := hx.2; omega) (fun σ e => by cases e)
  have hr1 : hM h1 (bu + 1) = some (.inr (11, [.int sd])) := cell_fc q5 q4 a3 (fun hx => by have := hx.1; have := hx.2; omega) (fun σ e => by cases e)
  obtain ⟨f', i1, i2, i3⟩ := fl_l (N := N) (bu := bu) 5 1 N f h1 (by omega) (by omega) hm1
  have l : ∀ k, k < 5 → ldI h bu (nI (1 + k)) = some (nI (wdW L z k)) := fun k hk => by rw [ldI_of' hm (by omega) (by omega), hf k hk]
  have l1 : ldI h bu (nI 1) = _ := l 0 (by omega)
  have l2 : ldI h bu (nI 2) = _ := l 1 (by omega)
  have l3 : ldI h bu (nI 3) = _ := l 2 (by omega)
  have l4 : ldI h bu (nI 4) = _ := l 3 (by omega)
  have l5 : ldI h bu (nI 5) = _ := l 4 (by omega)
  have o8 : ∀ F : Option (Int32 × zH), onO 8 b0 h F = F := fun F => onO_of' hGo
  have fp : FC (fun x => x = bu) 0 0 h1 (hPut h1 bu (.inl (0, 8, .inl f'))) := FC_put
  refine ⟨hPut h1 bu (.inl (0, 8, .inl f')), appB B z (bytF (nI (wdW L z 0)) (nI (wdW L z 1)) (nI (wdW L z 2)) (nI (wdW L z 3)) (nI (wdW L z 4))) 20, f', ?_, WC_fc a2 fp (fun y hy => by rw [hy]; exact q3) (fun y hy hyb => ?_), fun i hi => ?_, hM_put_eq, i3 0 (by omega), fun k hk => i2 (1 + k) (by omega) (by omega), FC_mono (FC_tr (FC_mono a3 (Nat.le_refl _) (Nat.le_refl _) (fun x _ hx => Or.inl hx)) (FC_mono fp (Nat.le_refl _) (Nat.le_refl _) (fun x _ hx => Or.inr hx))) (by omega) (by omega) (fun _ _ h => h), sd, (hM_put_ne (by omega)).trans hr1⟩
  · simp only [f_L_flush, nlit, l1, l2, l3, l4, l5, o8, a1, i1, Option.bind_some]
  · subst hyb
    refine ⟨fun fs h9 => ?_, fun σ h9 => ?_, fun n g _ _ σ h9 => ?_⟩
    · rw [hm1] at h9; cases h9
    · rw [hm1] at h9; cases h9
    · rw [hr1] at h9; cases h9
  · unfold appB
    by_cases hi2 : z ≤ i ∧ i < z + 20
    · rw [if_pos hi2]
      unfold bytF
      have hj : (i - z) % 4 < 4 := Nat.mod_lt _ (by omega)
      have key : ∀ k, selW (nI (wdW L z 0)) (nI (wdW L z 1)) (nI (wdW L z 2)) (nI (wdW L z 3)) (nI (wdW L z 4)) (i - z) = nI (wdW L z k) → 4 * k + (i - z) % 4 = i - z → nI (byteN (selW (nI (wdW L z 0)) (nI (wdW L z 1)) (nI (wdW L z 2)) (nI (wdW L z 3)) (nI (wdW L z 4)) (i - z)) (3 - (i - z) % 4)) = nI (L.getD i 0) := fun k hk hs => by
        rw [hk, wd_byte hL hj]
        congr 2
        omega
      by_cases g1 : i - z < 4
      · exact key 0 (by unfold selW; rw [if_pos g1]) (by omega)
      · by_cases g2 : i - z < 8
        · exact key 1 (by unfold selW; rw [if_neg g1, if_pos g2]) (by omega)
        · by_cases g3 : i - z < 12
          · exact key 2 (by unfold selW; rw [if_neg g1, if_neg g2, if_pos g3]) (by omega)
          · by_cases g4 : i - z < 16
            · exact key 3 (by unfold selW; rw [if_neg g1, if_neg g2, if_neg g3, if_pos g4]) (by omega)
            · exact key 4 (by unfold selW; rw [if_neg g1, if_neg g2, if_neg g3, if_neg g4]) (by omega)
    · rw [if_neg hi2]
      exact hB i (by omega)
theorem shl_lt {c j : Nat} (hc : c < 256) (hj : j < 4) : c * 2 ^ (24 - 8 * j) < 2 ^ (32 - 8 * j) := by
  rw [show 32 - 8 * j = 8 + (24 - 8 * j) by omega, Nat.pow_add]
  exact Nat.mul_lt_mul_of_pos_right (by omega) (Nat.two_pow_pos _)
theorem wdW_lt {base k : Nat} (hL : AllB L) : wdW L base k < 2 ^ 32 := by
  have b0 := hL (base + 4 * k)
  have b1 := hL (base + 4 * k + 1)
  have b2 := hL (base + 4 * k + 2)
  have b3 := hL (base + 4 * k + 3)
  unfold wdW
  generalize L.getD (base + 4 * k) 0 = x0 at b0 ⊢
  generalize L.getD (base + 4 * k + 1) 0 = x1 at b1 ⊢
  generalize L.getD (base + 4 * k + 2) 0 = x2 at b2 ⊢
  generalize L.getD (base + 4 * k + 3) 0 = x3 at b3 ⊢
  omega
theorem put_word {k j : Nat} (hc : c < 256) (hz : z ≤ L.length) (hl : L.length < z + 20) (hqL : AllB (L ++ [c])) (hk : (L.length - z) / 4 = k) (hj : (L.length - z) % 4 = j) : nI (wdW L z k) ||| (nI c <<< ((nI 24 - nI 8 * nI j) &&& nI 31)) = nI (wdW (L ++ [c]) z k) := by
  have m4 : j < 4 := by omega
  obtain ⟨a, ha⟩ := wdW_mul (L := L) (base := z) hz hl
  have hs := wdW_snoc (L := L) (c := c) (base := z) (k := k) hz hl
  rw [hk, hj] at ha hs
  rw [if_pos rfl] at hs
  have sh := shl_ok ⟨c, hc⟩ ⟨j, m4⟩
  have hw := wdW_lt (base := z) (k := k) hqL
  have hD := shl_lt hc m4
  rw [hs, ha] at hw
  rw [hs, ha]
  exact (congrArg (nI (2 ^ (32 - 8 * j) * a) ||| ·) sh).trans (or_add hD hw)
theorem L_put (hNN : 1400 < N) (q : WrAt M b0 bu h d K t yy ea L) (hc : c < 256) (hl : L.length < 660) : ∃ h', f_L_put N b0 bu (nI c) h = some h' ∧ WrAt M b0 bu h' d K t yy ea (L ++ [c]) ∧ FC (wrW b0 bu) 0 0 h h' := by
  obtain ⟨⟨B, q0, q00⟩, ⟨f, f1, f2, f3⟩, qL, ⟨q3, q4⟩, q5, q6, q7⟩ := id q
  have hm20 : L.length % 20 < 20 := Nat.mod_lt _ (by omega)
  generalize hz : L.length / 20 * 20 = z at q0 q00 f3
  have hzl : z + L.length % 20 = L.length := by omega
  have hL1 : (L ++ [c]).length = L.length + 1 := List.length_append
  have hqL := AllB_snoc qL hc
  have e1 : ldI h bu (nI 0) = some (nI L.length) := by rw [ldI_of' f1 (by omega) (by omega), f2]
  have e2 : zremI (nI L.length) (nI 20) = some (nI (L.length % 20)) := nremI (by omega) (by omega) (by omega)
  have e3 : zdivI (nI (L.length % 20)) (nI 4) = some (nI (L.length % 20 / 4)) := ndivI (by omega) (by omega) (by omega)
  have e4 : ldI h bu (nI (1 + L.length % 20 / 4)) = some (nI (wdW L z (L.length % 20 / 4))) := by rw [ldI_of' f1 (by omega) (by omega), f3 _ (by omega)]
  have e5 : zremI (nI L.length) (nI 4) = some (nI (L.length % 4)) := nremI (by omega) (by omega) (by omega)
  have hk : (L.length - z) / 4 = L.length % 20 / 4 := by rw [show L.length - z = L.length % 20 by omega]
  have hj : (L.length - z) % 4 = L.length % 4 := by omega
  have m4 : L.length % 4 < 4 := Nat.mod_lt _ (by omega)
  have e6 : nI (wdW L z (L.length % 20 / 4)) ||| (nI c <<< ((nI 24 - nI 8 * nI (L.length % 4)) &&& nI 31)) = nI (wdW (L ++ [c]) z (L.length % 20 / 4)) := put_word hc (by omega) (by omega) hqL hk hj
  have f0 := fun k (hk5 : k < 5) => f3 k hk5
  -- the heap with the byte and the count
  have s1 : stI h bu (nI (1 + L.length % 20 / 4)) (nI (wdW (L ++ [c]) z (L.length % 20 / 4))) = some (hPut h bu (.inl (0, 8, .inl (upd f (1 + L.length % 20 / 4) (nI (wdW (L ++ [c]) z (L.length % 20 / 4))))))) := stI_of' f1 (by omega) (by omega)
  generalize hg : upd f (1 + L.length % 20 / 4) (nI (wdW (L ++ [c]) z (L.length % 20 / 4))) = g at s1
  have g0 : g 0 = nI L.length := by rw [← hg, upS_ne (by omega), f2]
  have gk : ∀ k, k < 5 → g (1 + k) = nI (wdW (L ++ [c]) z k) := fun k hk5 => by
    rw [← hg]
    by_cases hke : k = L.length % 20 / 4
    · rw [hke, upS_eq]
    · rw [upS_ne (by omega), f0 k hk5, wdW_snoc (by omega) (by omega), hk, if_neg hke, Nat.add_zero]
  have s2 : ldI (hPut h bu (.inl (0, 8, .inl g))) bu (nI 0) = some (nI L.length) := by rw [ldI_of' hM_put_eq (by omega) (by omega), g0]
  have s3 : stI (hPut h bu (.inl (0, 8, .inl g))) bu (nI 0) (nI (L.length + 1)) = some (hPut h bu (.inl (0, 8, .inl (upd g 0 (nI (L.length + 1)))))) := by rw [stI_of' hM_put_eq (by omega) (by omega), put_put]
  generalize hg2 : upd g 0 (nI (L.length + 1)) = g2 at s3
  have g20 : g2 0 = nI (L.length + 1) := by rw [← hg2, upS_eq]
  have g2k : ∀ k, k < 5 → g2 (1 + k) = nI (wdW (L ++ [c]) z k) := fun k hk5 => by rw [← hg2, upS_ne (by omega), gk k hk5]
  have s4 : ldI (hPut h bu (.inl (0, 8, .inl g2))) bu (nI 0) = some (nI (L.length + 1)) := by rw [ldI_of' hM_put_eq (by omega) (by omega), g20]
  have s5 : zremI (nI (L.length + 1)) (nI 20) = some (nI ((L.length + 1) % 20)) := nremI (by omega) (by omega) (by omega)
  have fp : FC (fun x => x = bu) 0 0 h (hPut h bu (.inl (0, 8, .inl g2))) := FC_put
  have fw : FC (wrW b0 bu) 0 0 h (hPut h bu (.inl (0, 8, .inl g2))) := FC_mono fp (Nat.le_refl _) (Nat.le_refl _) (fun x _ hx => Or.inr hx)
  have hold : ∀ i, i < z → (L ++ [c]).getD i 0 = L.getD i 0 := fun i hi => getD_l (by omega)
  by_cases h20 : (L.length + 1) % 20 = 0
  · have hz2 : (L ++ [c]).length / 20 * 20 = z + 20 := by rw [hL1]; omega
    obtain ⟨sd, q5'⟩ := q5
    obtain ⟨h9, B', f', a1, a2, a3, a4, a5, a6, a7, a8⟩ := Wr_flush (N := N) (L := L ++ [c]) (bu := bu) hNN ((Wr_buf (f' := g2) q).2 _ _ q0) (by omega) (fun i hi => by rw [hold i hi]; exact q00 i hi) hM_put_eq g2k hqL q3 q4 ⟨sd, (hM_put_ne (by omega)).trans q5'⟩ q7
    refine ⟨h9, ?_, ⟨⟨B', by rw [hz2]; exact a2, fun i hi => a3 i (by omega)⟩, ⟨f', a4, by rw [a5, g20, hL1], fun k hk5 => ?_⟩, hqL, ⟨q3, Nat.lt_of_lt_of_le q4 a7.1.1⟩, a8, q6, q7⟩, FC_mono (FC_tr fw a7) (by omega) (by omega) (fun _ _ h => h)⟩
    · rw [f_L_put, show (0 : Int32) = nI 0 from rfl, show (20 : Int32) = nI 20 from rfl, show (4 : Int32) = nI 4 from rfl, show (1 : Int32) = nI 1 from rfl, show (24 : Int32) = nI 24 from rfl, show (8 : Int32) = nI 8 from rfl, show (31 : Int32) = nI 31 from rfl, e1, Option.bind_some, e2, Option.bind_some, e3, Option.bind_some, nadd, e4, Option.bind_some, Option.bind_some, e5, Option.bind_some, e6, s1, Option.bind_some, s2, Option.bind_some, nadd, s3, Option.bind_some, s4, Option.bind_some, s5, Option.bind_some, if_pos (by rw [h20]), a1, Option.bind_some]
    · rw [a6 k hk5, hz2]
      unfold wdW
      rw [getD_out (by omega), getD_out (by omega), getD_out (by omega), getD_out (by omega)]
  · have hz2 : (L ++ [c]).length / 20 * 20 = L.length / 20 * 20 := by rw [hL1]; omega
    refine ⟨hPut h bu (.inl (0, 8, .inl g2)), ?_, Wr_mk q hz2 (fun i hi => hold i (by omega)) (by rw [g20, hL1]) (fun k hk5 => by rw [hz]; exact g2k k hk5) hqL, fw⟩
    rw [f_L_put, show (0 : Int32) = nI 0 from rfl, show (20 : Int32) = nI 20 from rfl, show (4 : Int32) = nI 4 from rfl, show (1 : Int32) = nI 1 from rfl, show (24 : Int32) = nI 24 from rfl, show (8 : Int32) = nI 8 from rfl, show (31 : Int32) = nI 31 from rfl, e1, Option.bind_some, e2, Option.bind_some, e3, Option.bind_some, nadd, e4, Option.bind_some, Option.bind_some, e5, Option.bind_some, e6, s1, Option.bind_some, s2, Option.bind_some, nadd, s3, Option.bind_some, s4, Option.bind_some, s5, Option.bind_some, if_neg (of_eq_false (neqF (by omega) (by omega) h20))]
end M77

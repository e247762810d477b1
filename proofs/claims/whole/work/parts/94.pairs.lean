/-! ===== both sides answer alike: pairs ===== -/
def Keep (b0 : Nat) (h h' : zH) : Prop := (∀ x, b0 + 395 ≤ x → x < b0 + 414 → hM h' x = hM h x) ∧ hS h ≤ hS h' ∧ hS h' ≤ hS h + 3 ∧ hN h ≤ hN h' ∧ hN h' ≤ hN h + 720
def KeepM (b0 : Nat) (h h' : zH) : Prop := (∀ x, x < b0 + 395 ∨ b0 + 413 ≤ x → hM h' x = hM h x) ∧ hS h' = hS h ∧ hN h' = hN h
def PairT (b0 : Nat) (F : zH → Option ((Int32 ⊕ Nat) × zH)) (G : zH → Option (Int32 × zH)) (code : Nat → Option Nat) (h : zH) (s : St) : Prop :=
  ∃ (r : Int32 ⊕ Nat) (h1 : zH) (s' : St), F h = some (r, h1) ∧ WC b0 h1 s' ∧ Keep b0 h h1 ∧ ∀ (h2 : zH) (th : Int32), WMv b0 h2 th s → ∃ (v : Int32) (h3 : zH) (th' : Int32), G h2 = some (v, h3) ∧ WMv b0 h3 th' s' ∧ KeepM b0 h2 h3 ∧ ((∃ w, r = .inl w ∧ th' = nI 0 ∧ v = w) ∨ ∃ k c, r = .inr k ∧ code k = some c ∧ 0 < c ∧ c < 4 ∧ th' = nI c)
def PairN (b0 : Nat) (F G : zH → Option (Int32 × zH)) (h : zH) (s : St) : Prop :=
  ∃ (r : Int32) (h1 : zH) (s' : St), F h = some (r, h1) ∧ WC b0 h1 s' ∧ Keep b0 h h1 ∧ ∀ (h2 : zH) (th : Int32), WMv b0 h2 th s → ∃ (h3 : zH) (th' : Int32), G h2 = some (r, h3) ∧ WMv b0 h3 th' s' ∧ KeepM b0 h2 h3
section M94
variable {h h' : zH} {b0 K N q z : Nat} {ea : Int32} {d : Nat → Nat} {t : Nat → Nat} {hd : Nat → Nat → Nat} {hK : Nat → Nat} {ht : Nat → Nat → Nat} {B : Nat → Int32}
theorem Keep_rf : Keep b0 h h := ⟨fun _ _ _ => rfl, Nat.le_refl _, by omega, Nat.le_refl _, by omega⟩
theorem Keep_thr {k : Nat} : Keep b0 h (zthr k h) := ⟨fun _ _ _ => rfl, Nat.le_succ _, by show hS h + 1 ≤ _; omega, Nat.le_add_right _ _, by show hN h + 6 ≤ _; omega⟩
theorem KeepM_ms {h2 : zH} {S B1 D E : Nat → Int32} {H : Nat → Nat → Int32} {J : Nat → Int64} {L U Z W : Nat → Int32} : KeepM b0 h2 (mset h2 (b0 + 395) S B1 D E H J L U Z W) := ⟨fun x hx => rs_out (by omega), rfl, rfl⟩
/-- the model reads: its data stay -/
theorem M_read {G : zH → Option (Int32 × zH)} {v th th' : Int32} {h2 : zH} (hm : ∀ (S B1 E : Nat → Int32) (H : Nat → Nat → Int32) (J : Nat → Int64) (L U Z W : Nat → Int32), G (mset h2 (b0 + 395) S B1 (dI d) E H J L U Z W) = some (v, mset h2 (b0 + 395) (upd S 0 th') B1 (dI d) E H J L U Z W)) (hW : WMv b0 h2 th (d, K, t, (q, hd, hK, ht), ea, z, B)) : ∃ h3, G h2 = some (v, h3) ∧ WMv b0 h3 th' (d, K, t, (q, hd, hK, ht), ea, z, B) ∧ KeepM b0 h2 h3 := by
  obtain ⟨S, B1, E, H, J, L, U, Z, W, e0, e1, e2, e3, e4, e5, e6, e7, e8⟩ := hW
  have k := hm S B1 E H J L U Z W
  rw [e0] at k
  refine ⟨_, k, ⟨upd S 0 th', B1, E, H, J, L, U, Z, W, ms_ms, upS_eq _ _ _, ?_, e3, ?_, ?_, e6, e7, ?_⟩, KeepM_ms⟩
  · rw [upS_ne (by omega)]; exact e2
  · rw [upS_ne (by omega)]; exact e4
  · rw [upS_ne (by omega)]; exact e5
  · rw [upS_ne (by omega), upS_ne (by omega)]; exact e8
theorem M_readJ {G : zH → Option (Int32 × zH)} {v th th' : Int32} {h2 : zH} (hm : ∀ (S B1 E : Nat → Int32) (H : Nat → Nat → Int32) (J : Nat → Int64) (L U Z W : Nat → Int32), ∃ J' : Nat → Int64, G (mset h2 (b0 + 395) S B1 (dI d) E H J L U Z W) = some (v, mset h2 (b0 + 395) (upd S 0 th') B1 (dI d) E H J' L U Z W)) (hW : WMv b0 h2 th (d, K, t, (q, hd, hK, ht), ea, z, B)) : ∃ h3, G h2 = some (v, h3) ∧ WMv b0 h3 th' (d, K, t, (q, hd, hK, ht), ea, z, B) ∧ KeepM b0 h2 h3 := by
  obtain ⟨S, B1, E, H, J, L, U, Z, W, e0, e1, e2, e3, e4, e5, e6, e7, e8⟩ := hW
  obtain ⟨J', k⟩ := hm S B1 E H J L U Z W
  rw [e0] at k
  refine ⟨_, k, ⟨upd S 0 th', B1, E, H, J', L, U, Z, W, ms_ms, upS_eq _ _ _, ?_, e3, ?_, ?_, e6, e7, ?_⟩, KeepM_ms⟩
  · rw [upS_ne (by omega)]; exact e2
  · rw [upS_ne (by omega)]; exact e4
  · rw [upS_ne (by omega)]; exact e5
  · rw [upS_ne (by omega), upS_ne (by omega)]; exact e8
/-- the model changes its data, and remembers -/
theorem M_rem {G : zH → Option (Int32 × zH)} {v th : Int32} {h2 : zH} {d' : Nat → Nat} {K' : Nat} {t' : Nat → Nat} (hm : ∀ (S B1 E : Nat → Int32) (H : Nat → Nat → Int32) (J : Nat → Int64) (L U Z W : Nat → Int32), S 11 = nI q → ∃ (J' : Nat → Int64) (H' : Nat → Nat → Int32), G (mset h2 (b0 + 395) S B1 (dI d) E H J L U Z W) = some (v, mset h2 (b0 + 395) (upd (upd S 0 (nI 0)) 11 (nI (q - forg q + 1))) B1 (dI d') E H' J' L U Z W) ∧ RemH H H' (dI d) q) (hW : WMv b0 h2 th (d, K, t, (q, hd, hK, ht), ea, z, B)) : ∃ h3, G h2 = some (v, h3) ∧ WMv b0 h3 (nI 0) (d', K', t', (q - forg q + 1, remF hd d q, remF hK K q, remF ht t q), ea, z, B) ∧ KeepM b0 h2 h3 := by
  obtain ⟨S, B1, E, H, J, L, U, Z, W, e0, e1, e2, e3, e4, e5, e6, e7, e8⟩ := hW
  obtain ⟨J', H', k, r1, r2⟩ := hm S B1 E H J L U Z W e5
  rw [e0] at k
  have hf : forg q = 0 ∧ q ≠ 8 ∨ forg q = 1 ∧ q = 8 := by
    unfold forg
    split
    · exact Or.inr ⟨rfl, by assumption⟩
    · exact Or.inl ⟨rfl, by assumption⟩
  refine ⟨_, k, ⟨upd (upd S 0 (nI 0)) 11 (nI (q - forg q + 1)), B1, E, H', J', L, U, Z, W, ms_ms, ?_, ?_, e3, ?_, upS_eq _ _ _, by omega, ?_, ?_⟩, KeepM_ms⟩
  · rw [upS_ne (by omega), upS_eq]
  · rw [upS_ne (by omega), upS_ne (by omega)]; exact e2
  · rw [upS_ne (by omega), upS_ne (by omega)]; exact e4
  · intro k hk i hi
    unfold remF
    by_cases hkq : k = q - forg q
    · rw [if_pos hkq, hkq, r1 i hi]
      rfl
    · rw [if_neg hkq, r2 k i (by omega) hi]
      exact e7 _ (by omega) i hi
  · rw [upS_ne (by omega), upS_ne (by omega), upS_ne (by omega), upS_ne (by omega)]; exact e8
variable {F : zH → Option ((Int32 ⊕ Nat) × zH)} {G : zH → Option (Int32 × zH)} {code : Nat → Option Nat}
theorem P_thr {k c : Nat} {v : Int32} (hW : WC b0 h (d, K, t, (q, hd, hK, ht), ea, z, B)) (hF : F h = some (.inr k, zthr k h)) (hc : code k = some c) (h0 : 0 < c) (h4 : c < 4) (hm : ∀ (h2 : zH) (S B1 E : Nat → Int32) (H : Nat → Nat → Int32) (J : Nat → Int64) (L U Z W : Nat → Int32), G (mset h2 (b0 + 395) S B1 (dI d) E H J L U Z W) = some (v, mset h2 (b0 + 395) (upd S 0 (nI c)) B1 (dI d) E H J L U Z W)) : PairT b0 F G code h (d, K, t, (q, hd, hK, ht), ea, z, B) := by
  refine ⟨_, _, _, hF, WC_thr hW, Keep_thr, fun h2 th hM => ?_⟩
  obtain ⟨h3, m1, m2, m3⟩ := M_read (hm h2) hM
  exact ⟨v, h3, _, m1, m2, m3, Or.inr ⟨k, c, rfl, hc, h0, h4, rfl⟩⟩
theorem P_val {v : Int32} (hW : WC b0 h (d, K, t, (q, hd, hK, ht), ea, z, B)) (hF : F h = some (.inl v, h)) (hm : ∀ (h2 : zH) (S B1 E : Nat → Int32) (H : Nat → Nat → Int32) (J : Nat → Int64) (L U Z W : Nat → Int32), G (mset h2 (b0 + 395) S B1 (dI d) E H J L U Z W) = some (v, mset h2 (b0 + 395) (upd S 0 (nI 0)) B1 (dI d) E H J L U Z W)) : PairT b0 F G code h (d, K, t, (q, hd, hK, ht), ea, z, B) := by
  refine ⟨_, _, _, hF, hW, Keep_rf, fun h2 th hM => ?_⟩
  obtain ⟨h3, m1, m2, m3⟩ := M_read (hm h2) hM
  exact ⟨v, h3, _, m1, m2, m3, Or.inl ⟨v, rfl, rfl, rfl⟩⟩
theorem P_N {F : zH → Option (Int32 × zH)} {v : Int32} (hW : WC b0 h (d, K, t, (q, hd, hK, ht), ea, z, B)) (hF : F h = some (v, h)) (hm : ∀ (h2 : zH) (S B1 E : Nat → Int32) (H : Nat → Nat → Int32) (J : Nat → Int64) (L U Z W : Nat → Int32), G (mset h2 (b0 + 395) S B1 (dI d) E H J L U Z W) = some (v, mset h2 (b0 + 395) (upd S 0 (nI 0)) B1 (dI d) E H J L U Z W)) : PairN b0 F G h (d, K, t, (q, hd, hK, ht), ea, z, B) := by
  refine ⟨_, _, _, hF, hW, Keep_rf, fun h2 th hM => ?_⟩
  obtain ⟨h3, m1, m2, m3⟩ := M_read (hm h2) hM
  exact ⟨h3, _, m1, m2, m3⟩
end M94

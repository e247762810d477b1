theorem nor (a b : Nat) : nI a ||| nI b = nI (a ||| b) := by
  apply Int32.toBitVec_inj.mp
  show BitVec.ofNat 32 a ||| BitVec.ofNat 32 b = BitVec.ofNat 32 (a ||| b)
  rw [BitVec.ofNat_or]
theorem nand (a b : Nat) : nI a &&& nI b = nI (a &&& b) := by
  apply Int32.toBitVec_inj.mp
  show BitVec.ofNat 32 a &&& BitVec.ofNat 32 b = BitVec.ofNat 32 (a &&& b)
  rw [BitVec.ofNat_and]
theorem nshl1_all : (List.range 31).all (fun g => decide (nI 1 <<< (nI g &&& nI 31) = nI (1 <<< g))) = true := by decide +kernel
theorem nshl1 {g : Nat} (hg : g < 31) : nI 1 <<< (nI g &&& nI 31) = nI (1 <<< g) := of_decide_eq_true (all_of nshl1_all hg)
def popN (s : Nat) : Nat := s % 2 + s / 2 % 2 + s / 4 % 2 + s / 8 % 2 + s / 16 % 2 + s / 32 % 2 + s / 64 % 2 + s / 128 % 2
def bcX (p : Int32) : Int32 := match f_J6_bitCount_0f7a4 0 p (0, 0, fun _ => none) with
  | some (x, _) => x
  | none => 0
theorem bcX_all : (List.range 256).all (fun s => decide (bcX (nI s) = nI (popN s))) = true := by decide +kernel
theorem x_bc {N : Nat} {h : zH} {s : Nat} (hs : s < 256) : f_J6_bitCount_0f7a4 N (nI s) h = some (nI (popN s), h) := by
  have h1 := of_decide_eq_true (all_of bcX_all hs)
  have h2 : f_J6_bitCount_0f7a4 N (nI s) h = some (bcX (nI s), h) := rfl
  rw [h2, h1]
theorem pop31 : (List.range 32).all (fun s => decide (popN s = 5 ↔ s = 31)) = true := by decide +kernel
theorem lor_lt32 {a b : Nat} (ha : a < 32) (hb : b < 32) : a ||| b < 32 := Nat.or_lt_two_pow (n := 5) ha hb
theorem shl_lt32 {g : Nat} (hg : g < 5) : 1 <<< g < 32 := by
  rcases five hg with rfl | rfl | rfl | rfl | rfl <;> decide
def eI (o : Option Nat) : Int32 := match o with
  | none => -nI 1
  | some e => nI e
theorem eI_m1 {o : Option Nat} (ho : ∀ e, o = some e → e < 2 ^ 31) : (eI o = -nI 1) = (o = none) := by
  cases o with
  | none => simp [eI]
  | some e =>
    have h1 := ho e rfl
    have h2 : ¬ nI e < 0 := nI_pos h1
    have h3 : ¬ nI e = -nI 1 := fun h => h2 (by rw [h]; decide)
    simp [eI, h3]
theorem pow5 {p : Nat} (hp : p < 5) : 5 ^ (4 - p) ≤ 625 := by
  rcases five hp with rfl | rfl | rfl | rfl | rfl <;> decide
theorem npredL (k : Nat) : nI (k + 1) + (-1 : Int32) = nI k := npred k
section XFROM
variable {h : zH} {g N : Nat}
theorem x_from_l (hG : GrpAt h g) (hN : 5 < N) {n : Nat} (hn : inN n) (k : Int32 → Int32 → Int32 → zH → Option (Int32 × zH)) (hk : ∀ rest seen key : Nat, seen < 32 → key < 625 → rest < 2 ^ 31 → k (nI rest) (nI seen) (nI key) h = some (eI (if rest = 0 ∧ seen = 31 then some (rankN key) else none), h)) :
    ∀ (p f rest seen key : Nat), p < f → p ≤ 5 → rest < 2 ^ 31 → seen < 32 → key < 5 ^ (5 - max p 1) → f_X2_fromNumber_l11 N g (nI n) k f (nI rest) (nI seen) (nI key) (nI p + (-1 : Int32)) h = some (eI (xL n p rest seen key), h) := by
  have o := fun (F : Option (Int32 × zH)) => onO_of' (F := F) hG.1
  have hn5 : 2 ≤ n ∧ n ≤ 5 := by rcases hn with rfl | rfl | rfl | rfl <;> omega
  intro p
  induction p with
  | zero =>
    intro f rest seen key hf hp hr hs hkey
    obtain ⟨f, rfl⟩ : ∃ m, f = m + 1 := ⟨f - 1, by omega⟩
    rw [f_X2_fromNumber_l11, if_pos (by decide), hk rest seen key hs (by simpa using hkey) hr]
    rfl
  | succ p ih =>
    intro f rest seen key hf hp hr hs hkey
    obtain ⟨f, rfl⟩ : ∃ m, f = m + 1 := ⟨f - 1, by omega⟩
    rw [show max (p + 1) 1 = p + 1 by omega, show 5 - (p + 1) = 4 - p by omega] at hkey
    have hk6 := pow5 (p := p) (by omega)
    have tail : ∀ rest q : Nat, rest < 2 ^ 31 → q < 5 → (if nI p ≤ 0 then f_X2_fromNumber_l11 N g (nI n) k f (nI rest) (nI seen ||| (1 : Int32) <<< (nI q &&& 31)) (nI key) (nI p + (-1 : Int32)) h else (onO 2 g h (f_X2_longerKey N g (nI key) (nI q) h)).bind fun y3 => f_X2_fromNumber_l11 N g (nI n) k f (nI rest) (nI seen ||| (1 : Int32) <<< (nI q &&& 31)) y3.1 (nI p + (-1 : Int32)) y3.2) = some (eI (xL n p rest (seen ||| 1 <<< q) (if 0 < p then 5 * key + (4 - q) else key)), h) := by
      intro rest q hr hq
      have hs2 := lor_lt32 hs (shl_lt32 hq)
      have e1 : nI seen ||| (1 : Int32) <<< (nI q &&& 31) = nI (seen ||| 1 <<< q) := by
        rw [← nor, ← nshl1 (by omega)]
        rfl
      rw [e1]
      by_cases h0 : p = 0
      · subst h0
        rw [if_pos (by decide), if_neg (by omega)]
        exact ih f rest _ key (by omega) (by omega) hr hs2 (by simpa using hkey)
      · have h5 : 5 * key + (4 - q) < 5 ^ (5 - max p 1) := by
          rw [show max p 1 = p by omega, show 5 - p = (4 - p) + 1 by omega, Nat.pow_succ]
          omega
        have hk2 : key < 200 := by
          have : 5 ^ (4 - p) ≤ 125 := by rcases (show p = 1 ∨ p = 2 ∨ p = 3 ∨ p = 4 by omega) with rfl | rfl | rfl | rfl <;> decide
          omega
        have h6 : ¬ nI p ≤ 0 := by
          have h7 : ¬ (nI p ≤ nI 0) := by rw [nle (by omega) (by omega)]; omega
          exact h7
        rw [if_neg h6, if_pos (by omega), o, x_key (by omega) hk2, Option.bind_some]
        exact ih f rest _ _ (by omega) (by omega) hr hs2 h5
    rw [f_X2_fromNumber_l11, npredL, if_neg (nI_pos (by omega))]
    simp only [zjn]
    rw [xL]
    by_cases hpn : p < n
    · rw [if_pos hpn, if_neg (by rw [nle (by omega) (by omega)]; omega)]
      have e1 : zremI (nI rest) (10 : Int32) = some (nI (rest % 10)) := nremI (b := 10) (by omega) (by omega) (by omega)
      have e2 : zdivI (nI rest) (10 : Int32) = some (nI (rest / 10)) := ndivI (b := 10) (by omega) (by omega) (by omega)
      rw [e1, Option.bind_some, e2, Option.bind_some]
      by_cases hd : rest % 10 = 0
      · rw [if_pos (Or.inl hd), hd, if_pos (by decide)]
        rfl
      · have e3 : nI (rest % 10) - (1 : Int32) = nI (rest % 10 - 1) := nsub (b := 1) (by omega)
        rw [e3, if_neg (nI_pos (by omega))]
        by_cases hd2 : n < rest % 10
        · rw [if_pos (Or.inr hd2), if_neg (by rw [nlt (by omega) (by omega)]; omega)]
          rfl
        · rw [if_neg (show ¬ (rest % 10 = 0 ∨ n < rest % 10) by omega), if_pos (by rw [nlt (by omega) (by omega)]; omega)]
          exact tail (rest / 10) (rest % 10 - 1) (by omega) (by omega)
    · rw [if_neg hpn, if_pos (by rw [nle (by omega) (by omega)]; omega)]
      exact tail rest p hr (by omega)
theorem x_from_nat (hG : GrpAt h g) (hN : 10 < N) {n v : Nat} (hn : inN n) (hv : v < 2 ^ 31) : f_X2_fromNumber N g (nI v) (nI n) h = some (eI (eltN n v), h) := by
  have o := fun (F : Option (Int32 × zH)) => onO_of' (F := F) hG.1
  have e4 : (4 : Int32) = nI 5 + (-1 : Int32) := by decide
  rw [f_X2_fromNumber, e4]
  refine x_from_l (N := N) hG (by omega) hn _ ?_ 5 N v 0 0 (by omega) (by omega) hv (by omega) (by decide)
  intro rest seen key hs hkey hr
  have h31 := of_decide_eq_true (all_of pop31 hs)
  have h9 : popN seen < 2 ^ 31 := by unfold popN; omega
  have e5 : (nI (popN seen) = (5 : Int32)) = (popN seen = 5) := neq (b := 5) h9 (by omega)
  have e0 : (nI rest = (0 : Int32)) = (rest = 0) := neq (b := 0) hr (by omega)
  by_cases h0 : rest = 0
  · rw [if_pos (e0 ▸ h0), x_bc (by omega), Option.bind_some]
    by_cases h1 : seen = 31
    · rw [if_pos (e5 ▸ h31.mpr h1), o, x_withKey hG hkey, if_pos ⟨h0, h1⟩]
      rfl
    · rw [if_neg (by rw [e5]; exact fun e => h1 (h31.mp e)), if_neg (fun e => h1 e.2)]
      rfl
  · rw [if_neg (by rw [e0]; exact h0), if_neg (fun e => h0 e.1)]
    rfl
end XFROM

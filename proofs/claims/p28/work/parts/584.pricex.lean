theorem put_put (h : zH) (a : Nat) (e e' : zE) : hPut (hPut h a e) a e' = hPut h a e' := by
  refine zH_ext rfl rfl fun p => ?_
  show (if p = a then some e' else if p = a then some e else h.2.2 p) = (if p = a then some e' else h.2.2 p)
  split <;> rfl
section M84
variable {h : zH} {rl ca sa K N bs od bi po : Nat} {t : Nat → Nat} {f : Nat → Int32}
theorem x_clamp (v : Int64) : f_X5_result_j67 N v h = some (clJ v, h) := by
  unfold f_X5_result_j67 f_J9_min_f86c9 f_J9_max_f86c9 clJ
  simp only [lgc_gt, lgc_lt]
  by_cases h1 : (1000000 : Int64) < v
  · rw [if_neg (Int64.not_lt.mpr (Int64.le_of_lt h1)), if_pos h1]
    simp only [Option.bind_some]
    rw [if_pos (by decide)]
    rfl
  · rw [if_neg h1]
    by_cases h2 : v < 1000000
    · rw [if_pos h2]
      simp only [Option.bind_some]
      by_cases h3 : v < -1000000
      · rw [if_pos h3, if_neg (Int64.not_lt.mpr (Int64.le_of_lt h3))]
        rfl
      · rw [if_neg h3]
        by_cases h4 : (-1000000 : Int64) < v
        · rw [if_pos h4]
          rfl
        · rw [if_neg h4]
          have : v = -1000000 := Int64.le_antisymm (Int64.not_lt.mp h4) (Int64.not_lt.mp h3)
          subst this
          rfl
    · rw [if_neg h2]
      have : v = 1000000 := Int64.le_antisymm (Int64.not_lt.mp h1) (Int64.not_lt.mp h2)
      subst this
      simp only [Option.bind_some]
      rw [if_pos (by decide), if_neg (by decide)]
      rfl
theorem clsC_op {c : Nat} (h : 10004 ≤ c) (h2 : c ≤ 10007) : ¬ ((-5 : Int32) < clsC c) := by
  rcases (show c = 10004 ∨ c = 10005 ∨ c = 10006 ∨ c = 10007 by omega) with rfl | rfl | rfl | rfl <;> decide
theorem neg_lt_nI {c : Nat} (h : c < 10000) {x : Int32} (hx : x.toInt < 0) : ¬ nI c = x ∧ x < nI c := by
  refine ⟨fun e => ?_, ?_⟩
  · have := nI_toInt (show c < 2 ^ 31 by omega)
    rw [e] at this
    omega
  · rw [Int32.lt_iff_toInt_lt, nI_toInt (show c < 2 ^ 31 by omega)]
    omega
theorem clsC_va {c : Nat} (h : c < 10004) : (-5 : Int32) < clsC c := by
  by_cases hc : c < 10000
  · unfold clsC
    rw [if_pos hc]
    exact (neg_lt_nI hc (by decide)).2
  · rcases (show c = 10000 ∨ c = 10001 ∨ c = 10002 ∨ c = 10003 by omega) with rfl | rfl | rfl | rfl <;> decide
theorem x_operand {c : Nat} (hc4 : c < 10004) : f_X5_operand N (clsC c) (nI bs) (nI od) (nI bi) (nI po) h = some (nI (tokV bs od bi po c), h) := by
  by_cases hc : c < 10000
  · unfold clsC tokV f_X5_operand
    rw [if_pos hc, if_pos hc, if_neg (neg_lt_nI hc (by decide)).1, if_neg (neg_lt_nI hc (by decide)).1, if_neg (neg_lt_nI hc (by decide)).1, if_neg (neg_lt_nI hc (by decide)).1]
  · rcases (show c = 10000 ∨ c = 10001 ∨ c = 10002 ∨ c = 10003 by omega) with rfl | rfl | rfl | rfl <;> rfl
theorem x_result {c : Nat} {a b : Int64} (hc : 10004 ≤ c) (hc2 : c ≤ 10007) (ha : rgJ a) : f_X5_result N (clsC c) a b h = some (opJ c a b, h) := by
  rcases (show c = 10004 ∨ c = 10005 ∨ c = 10006 ∨ c = 10007 by omega) with rfl | rfl | rfl | rfl
  · rw [show clsC 10004 = (-5 : Int32) by decide]
    unfold f_X5_result
    rw [if_neg (by decide), if_neg (by decide), if_pos rfl, x_clamp]
    unfold opJ
    rw [if_pos rfl]
  · rw [show clsC 10005 = (-6 : Int32) by decide]
    unfold f_X5_result
    rw [if_neg (by decide), if_pos rfl, x_clamp]
    unfold opJ
    rw [if_neg (by omega), if_pos rfl]
  · rw [show clsC 10006 = (-7 : Int32) by decide]
    unfold f_X5_result
    rw [if_pos rfl, x_clamp]
    unfold opJ
    rw [if_neg (by omega), if_neg (by omega), if_pos rfl]
  · rw [show clsC 10007 = (-8 : Int32) by decide, show opJ 10007 a b = divJ a b by unfold opJ; rw [if_neg (by omega), if_neg (by omega), if_neg (by omega)]]
    unfold f_X5_result f_X5_result_j65
    rw [if_neg (by decide), if_neg (by decide), if_neg (by decide)]
    simp only [lgc_eq]
    have hd := divJ_ok (b := b) ha
    unfold divJ at hd ⊢
    by_cases hb : b = 0
    · rw [if_pos hb] at hd ⊢
      rw [if_pos hb, x_clamp, clJ_id hd]
    · rw [if_neg hb] at hd ⊢
      rw [if_neg hb]
      unfold zdivL
      rw [if_neg hb]
      simp only [Option.bind_some]
      rw [x_clamp, clJ_id hd]
theorem x_price_l {V : Nat → Nat} {k1 : zH → Option (Int32 × zH)} (hVd : V = tokV bs od bi po) (hV : ∀ c, c < 10004 → V c ≤ 1000000) (hW : WFt t K) (h1 : hM h rl = some (.inr (5, [.ref ca, .ref sa]))) (h2 : hM h ca = some (.inl (0, K, .inl f))) (hf : ∀ k, k < K → f k = clsC (t k)) (ne1 : rl ≠ sa) (ne2 : ca ≠ sa) (hK : K < 2 ^ 31)  (σ : Nat → Int64) : ∀ (r k fuel : Nat), k + r = K → r < fuel → f_X5_price_l6 N rl (nI bs) (nI od) (nI bi) (nI po) k1 fuel (nI (hgt t k)) (nI k) (hPut h sa (.inl (1, 11, .inr (.inl (evJ V t σ k))))) = k1 (hPut h sa (.inl (1, 11, .inr (.inl (evJ V t σ K))))) := by
  have hL := aLen_of' (h := h) h2 (by omega)
  have c1 : ∀ σ : Nat → Int64, gA (hPut h sa (.inl (1, 11, .inr (.inl σ)))) rl 5 0 = some ca := fun σ => gA_of' (by rw [hM_put, if_neg ne1]; exact h1) rfl
  have c2 : ∀ σ : Nat → Int64, gA (hPut h sa (.inl (1, 11, .inr (.inl σ)))) rl 5 1 = some sa := fun σ => gA_of' (by rw [hM_put, if_neg ne1]; exact h1) rfl
  have c3 : ∀ σ : Nat → Int64, aLen (hPut h sa (.inl (1, 11, .inr (.inl σ)))) ca = some (nI K) := fun σ => aLen_of' (by rw [hM_put, if_neg ne2]; exact h2) (by omega)
  have c4 : ∀ (σ : Nat → Int64) (k : Nat), k < K → ldI (hPut h sa (.inl (1, 11, .inr (.inl σ)))) ca (nI k) = some (clsC (t k)) := fun σ k hk => by rw [← hf k hk]; exact ldI_of' (by rw [hM_put, if_neg ne2]; exact h2) hk (by omega)
  have c5 : ∀ (σ : Nat → Int64) (k : Nat), k < 11 → ldJ (hPut h sa (.inl (1, 11, .inr (.inl σ)))) sa (nI k) = some (σ k) := fun σ k hk => ldJ_of' (by rw [hM_put, if_pos rfl]) hk (by omega)
  have c6 : ∀ (σ : Nat → Int64) (k : Nat) (x : Int64), k < 11 → stJ (hPut h sa (.inl (1, 11, .inr (.inl σ)))) sa (nI k) x = some (hPut h sa (.inl (1, 11, .inr (.inl (vp_updL σ k x))))) := fun σ k x hk => by rw [stJ_of' (by rw [hM_put, if_pos rfl]) hk (by omega), put_put]
  intro r
  induction r with
  | zero =>
    intro k fuel hk hfu
    obtain ⟨fuel, rfl⟩ : ∃ m, fuel = m + 1 := ⟨fuel - 1, by omega⟩
    have hkK : k = K := by omega
    subst hkK
    simp (disch := omega) only [f_X5_price_l6, c1, c3, nleT, ↓reduceIte, Option.bind_some]
  | succ r ih =>
    intro k fuel hk hfu
    obtain ⟨fuel, rfl⟩ : ∃ m, fuel = m + 1 := ⟨fuel - 1, by omega⟩
    have hkK : k < K := by omega
    obtain ⟨w1, w2, w3⟩ := hW k hkK
    have hg := hgt_le hW k (by omega)
    rw [← ih (k + 1) fuel (by omega) (by omega)]
    by_cases ho : 10004 ≤ t k
    · obtain ⟨s, hs⟩ : ∃ s, hgt t k = s + 2 := ⟨hgt t k - 2, by have := w2 ho; omega⟩
      have q1 : (-nI 5 < clsC (t k)) = False := eq_false (clsC_op ho w1)
      have okl : rgJ (evJ V t σ k s) := evJ_ok hV hW σ k (by omega) s (by omega)
      have q2 := fun (h : zH) (b : Int64) => x_result (N := N) (h := h) (b := b) ho w1 okl
      have e1 : nI (s + 2) + -nI 1 = nI (s + 1) := npred (s + 1)
      rw [evJ_op ho hs, hgt_op ho, hs, show s + 2 - 1 = s + 1 from rfl]
      simp (disch := omega) only [f_X5_price_l6, c1, c2, c3, c4, c5, c6, Nat.add_sub_cancel, q1, q2, e1, nlit, nltT, nltF, nleT, nleF, nadd, nsub, zjn, ↓reduceIte, Option.bind_some]
    · have ho2 : t k < 10004 := by omega
      have := w3 ho2
      have q1 : (-nI 5 < clsC (t k)) = True := eq_true (clsC_va ho2)
      have q2 := fun (h : zH) => x_operand (N := N) (h := h) (bs := bs) (od := od) (bi := bi) (po := po) ho2
      rw [evJ_va ho2, hgt_va ho2]
      subst hVd
      simp (disch := omega) only [f_X5_price_l6, c1, c2, c3, c4, c6, q1, q2, nlit, nltT, nltF, nleT, nleF, nadd, nsub, zjn, ↓reduceIte, Option.bind_some]
theorem x_price (hN : K < N) (hV : ∀ c, c < 10004 → tokV bs od bi po c ≤ 1000000) (hW : WFt t K) (h0 : 0 < K) (h1 : hM h rl = some (.inr (5, [.ref ca, .ref sa]))) (h2 : hM h ca = some (.inl (0, K, .inl f))) {σ : Nat → Int64} (h3 : hM h sa = some (.inl (1, 11, .inr (.inl σ)))) (hf : ∀ k, k < K → f k = clsC (t k)) (ne1 : rl ≠ sa) (ne2 : ca ≠ sa) (hK : K < 2 ^ 31) : f_X5_price N rl (nI bs) (nI od) (nI bi) (nI po) h = some (nI (priN (evJ (tokV bs od bi po) t (fun _ => 0) K 0)), hPut h sa (.inl (1, 11, .inr (.inl (evJ (tokV bs od bi po) t σ K))))) := by
  have hself : hPut h sa (.inl (1, 11, .inr (.inl σ))) = h := by
    refine zH_ext rfl rfl fun p => ?_
    show (if p = sa then some _ else h.2.2 p) = h.2.2 p
    split
    · next e => subst e; exact h3.symm
    · rfl
  have i1 := x_price_l (N := N) (k1 := fun (h15 : zH) => (gA h15 rl 5 1).bind fun x16 => (ldJ h15 x16 (0 : Int32)).bind fun x17 => (f_J9_min_f86c9 N (9999 : Int64) x17 h15).bind fun y18 => (f_J9_max_f86c9 N (0 : Int64) y18.1 y18.2).bind fun y19 => some (y19.1.toInt32, y19.2)) rfl hV hW h1 h2 hf ne1 ne2 hK σ K 0 N (by omega) hN
  rw [show evJ (tokV bs od bi po) t σ 0 = σ from rfl, hself] at i1
  unfold f_X5_price
  refine Eq.trans i1 ?_
  have c2 : gA (hPut h sa (.inl (1, 11, .inr (.inl (evJ (tokV bs od bi po) t σ K))))) rl 5 1 = some sa := gA_of' (by rw [hM_put, if_neg ne1]; exact h1) rfl
  have c5 : ldJ (hPut h sa (.inl (1, 11, .inr (.inl (evJ (tokV bs od bi po) t σ K))))) sa (0 : Int32) = some (evJ (tokV bs od bi po) t σ K 0) := ldJ_of' (k := 0) (by rw [hM_put, if_pos rfl]) (by omega) (by omega)
  simp only [c2, c5, Option.bind_some]
  rw [evJ_any hW σ (fun _ => 0) K (Nat.le_refl K) 0 (hgt_pos hW K (Nat.le_refl K) h0)]
  generalize evJ (tokV bs od bi po) t (fun _ => 0) K 0 = v
  generalize evJ (tokV bs od bi po) t σ K = ρ
  unfold f_J9_min_f86c9 f_J9_max_f86c9
  simp only [lgc_gt, lgc_lt]
  by_cases g1 : v < 9999
  · rw [if_pos g1]
    simp only [Option.bind_some]
    by_cases g2 : 0 < v
    · rw [if_pos g2]
      simp only [Option.bind_some]
      rw [priN_in (Int64.not_lt.mpr (Int64.le_of_lt g2)) (Int64.not_lt.mpr (Int64.le_of_lt g1))]
    · rw [if_neg g2]
      simp only [Option.bind_some]
      have : priN v = 0 := by
        unfold priN
        by_cases g3 : v < 0
        · rw [if_pos g3]
        · have : v = 0 := Int64.le_antisymm (Int64.not_lt.mp g2) (Int64.not_lt.mp g3)
          subst this
          rfl
      rw [this]
      rfl
  · rw [if_neg g1]
    simp only [Option.bind_some]
    rw [if_pos (by decide)]
    have : priN v = 9999 := by
      unfold priN
      by_cases g3 : 9999 < v
      · rw [if_neg (Int64.not_lt.mpr (Int64.le_of_lt (Int64.lt_trans (by decide) g3))), if_pos g3]
      · have : v = 9999 := Int64.le_antisymm (Int64.not_lt.mp g3) (Int64.not_lt.mp g1)
        subst this
        rfl
    rw [this]
    rfl
end M84

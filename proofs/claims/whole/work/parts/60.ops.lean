/-! most: what a draw costs -/
theorem lsub2 (a b c : Int64) : a - b - c = a - (b + c) := by
  rw [Int64.sub_eq_add_neg, Int64.sub_eq_add_neg, Int64.sub_eq_add_neg, Int64.neg_add, Int64.add_assoc, Int64.sub_eq_add_neg (-b) c]
theorem lsub_toInt {a b : Nat} (ha : a < 2 ^ 62) (hb : b < 2 ^ 62) : (lN a - lN b).toInt = (a : Int) - b := by
  rw [Int64.toInt_sub, pk_lT (by omega), pk_lT (by omega)]
  exact Int.bmod_eq_of_le (by omega) (by omega)
def sCo (ins su : Nat → Int32) (cc : Nat → Nat) (j : Nat) : Nat := if ¬ ins j = 0 ∧ ¬ su j = 0 then cc j else 0
def oCo (ins su : Nat → Int32) (g cc : Nat → Nat) (j : Nat) : Nat := if ¬ ins j = 0 ∧ su j = 0 then g j * cc j else 0
theorem sCo_le {ins su : Nat → Int32} {cc : Nat → Nat} (h : ∀ j, j < 40 → ¬ ins j = 0 → cc j ≤ 500) {m : Nat} (hm : m ≤ 40) : gsum (sCo ins su cc) m ≤ 20000 := by
  have := gsum_bd (f := sCo ins su cc) (m := m) (c := 500) (fun i hi => by
    unfold sCo
    split
    · rename_i q
      exact h i (by omega) q.1
    · omega)
  omega
theorem oCo_le {ins su : Nat → Int32} {g cc : Nat → Nat} (h : ∀ j, j < 40 → ¬ ins j = 0 → cc j ≤ 500) (hg : ∀ j, j < 40 → g j ≤ 20) {m : Nat} (hm : m ≤ 40) : gsum (oCo ins su g cc) m ≤ 400000 := by
  have := gsum_bd (f := oCo ins su g cc) (m := m) (c := 10000) (fun i hi => by
    unfold oCo
    split
    · rename_i q
      exact Nat.mul_le_mul (hg i (by omega)) (h i (by omega) q.1)
    · omega)
  omega
theorem cost7 {C : mm_M} {b : Nat} {ins su : Nat → Int32} {g kd co : Nat → Nat} (h1 : ∀ j, j < 40 → C.1 56 j = ins j ∧ C.1 58 j = nI (g j)) (h2 : C.1 57 = su) (hk : ∀ j, j < 40 → ¬ ins j = 0 → C.1 26 j = nI (kd j) ∧ kd j ≤ 4) (hc : ∀ k, k < 5 → C.1 15 k = nI (co k)) (K : Int32 → Int32 → Int32 → mm_M → Option (Int32 × mm_M)) : f_X2_costsAtMost_7_9 K mm_fu (nI b) (nI 0) (nI 0) (nI 0) C = K (nI b) (nI (gsum (sCo ins su (fun j => co (kd j))) 40)) (nI (gsum (oCo ins su g (fun j => co (kd j))) 40)) C := by
  refine lpf (fun n s => f_X2_costsAtMost_7_9 K n (nI b) (nI (gsum (sCo ins su (fun j => co (kd j))) s)) (nI (gsum (oCo ins su g (fun j => co (kd j))) s)) (nI s) C) (c := 40) (by omega) ?_ ?_
  · intro s m hs
    have q40 : ¬ 40 ≤ s := by omega
    obtain ⟨i1, i2⟩ := h1 s hs
    have a1 := gsum_s (sCo ins su (fun j => co (kd j))) s
    have a2 := gsum_s (oCo ins su g (fun j => co (kd j))) s
    unfold sCo at a1
    unfold oCo at a2
    show f_X2_costsAtMost_7_9 K (m + 1) _ _ _ _ _ = f_X2_costsAtMost_7_9 K m _ _ _ _ _
    conv => lhs; unfold f_X2_costsAtMost_7_9 f_X2_costsAtMost_7_89
    by_cases e : ins s = 0
    · rw [if_neg (fun q => q.1 e)] at a1 a2
      simp (disch := omega) only [mI, let_, bi_, bv_, ckI, clI, nI_leI, nI_ltI, nI_eq, nI_add, add1, ad0, pk_mul, pk_sub, e0, e1, ge0, lt0, le0, gt0, lt1, l2_, l3, l4, l5, l6, l7, l8, l9, l10, l12, l13, l20, l26, l30, l40, l80, l99, l100, l240, l320, l999, l1000, l2000, a11, a01, z01, z00, bz0, bz1, s1, s2, l1, l2, upd_at, Nat.reduceEqDiff, reduceIte, q40, i1, e]
      rw [show gsum (sCo ins su fun j => co (kd j)) (s + 1) = _ from a1, show gsum (oCo ins su g fun j => co (kd j)) (s + 1) = _ from a2]
      rfl
    · obtain ⟨k1, k2⟩ := hk s hs e
      have k5 : kd s < 5 := by omega
      by_cases e2 : su s = 0
      · rw [if_neg (fun q => q.2 e2)] at a1
        rw [if_pos ⟨e, e2⟩] at a2
        simp (disch := omega) only [mI, let_, bi_, bv_, ckI, clI, nI_leI, nI_ltI, nI_eq, nI_add, add1, ad0, pk_mul, pk_sub, e0, e1, ge0, lt0, le0, gt0, lt1, l2_, l3, l4, l5, l6, l7, l8, l9, l10, l12, l13, l20, l26, l30, l40, l80, l99, l100, l240, l320, l999, l1000, l2000, a11, a01, z01, z00, bz0, bz1, s1, s2, l1, l2, upd_at, Nat.reduceEqDiff, reduceIte, q40, i1, e, k1, k5, h2, e2, i2, hc]
        rw [show gsum (sCo ins su fun j => co (kd j)) (s + 1) = _ from a1, show gsum (oCo ins su g fun j => co (kd j)) (s + 1) = _ from a2]
        rfl
      · rw [if_pos ⟨e, e2⟩] at a1
        rw [if_neg (fun q => e2 q.2)] at a2
        simp (disch := omega) only [mI, let_, bi_, bv_, ckI, clI, nI_leI, nI_ltI, nI_eq, nI_add, add1, ad0, pk_mul, pk_sub, e0, e1, ge0, lt0, le0, gt0, lt1, l2_, l3, l4, l5, l6, l7, l8, l9, l10, l12, l13, l20, l26, l30, l40, l80, l99, l100, l240, l320, l999, l1000, l2000, a11, a01, z01, z00, bz0, bz1, s1, s2, l1, l2, upd_at, Nat.reduceEqDiff, reduceIte, q40, i1, e, k1, k5, h2, e2, i2, hc]
        rw [show gsum (sCo ins su fun j => co (kd j)) (s + 1) = _ from a1, show gsum (oCo ins su g fun j => co (kd j)) (s + 1) = _ from a2]
        rfl
  · intro m
    show f_X2_costsAtMost_7_9 K (m + 1) _ _ _ (nI 40) _ = _
    unfold f_X2_costsAtMost_7_9
    rw [if_pos (show (40 : Int32) ≤ nI 40 by decide +kernel)]
theorem paid14 {R : mm_M} {n b r : Nat} {ins su : Nat → Int32} {g kd co : Nat → Nat} (hn : n ≤ 40) (r0 : R.1 0 2 = nI n) (h0 : ∀ j, n ≤ j → j < 40 → ins j = 0) (h1 : ∀ j, j < n → (R.1 6 j = 0 ↔ ins j = 0) ∧ R.1 18 j = su j ∧ (¬ ins j = 0 → R.1 5 j = nI (g j) ∧ g j ≤ 20 ∧ R.1 1 j = nI (kd j) ∧ kd j ≤ 4)) (hc : ∀ k, k < 5 → R.1 54 k = nI (co k) ∧ co k ≤ 500) (hr : (∃ j, j < n ∧ ¬ ins j = 0 ∧ su j = 0) → R.1 0 22 = nI r) (hr4 : r ≤ 40) (K : Int64 → Int64 → mm_M → Option (Int32 × mm_M)) : f_X12_isPaid_14 K mm_fu (lN b) (lN 0) (nI 0) R = K (lN b - lN (gsum (sCo ins su (fun j => co (kd j))) 40)) (lN (r * gsum (oCo ins su g (fun j => co (kd j))) 40)) R := by
  rw [gsum_cut (f := sCo ins su (fun j => co (kd j))) hn (fun i i1 i2 => if_neg (fun q => q.1 (h0 i i1 i2))), gsum_cut (f := oCo ins su g (fun j => co (kd j))) hn (fun i i1 i2 => if_neg (fun q => q.1 (h0 i i1 i2)))]
  have st := lpf (fun m s => f_X12_isPaid_14 K m (lN b - lN (gsum (sCo ins su (fun j => co (kd j))) s)) (lN (r * gsum (oCo ins su g (fun j => co (kd j))) s)) (nI s) R) (c := n) (out := K (lN b - lN (gsum (sCo ins su (fun j => co (kd j))) n)) (lN (r * gsum (oCo ins su g (fun j => co (kd j))) n)) R) (by omega) ?_ ?_
  · have e : lN b - lN (gsum (sCo ins su (fun j => co (kd j))) 0) = lN b := Int64.sub_zero _
    simp only [e] at st
    exact st
  · intro s m hs
    have q40 : ¬ n ≤ s := by omega
    obtain ⟨i1, i2, i3⟩ := h1 s hs
    have a1 := gsum_s (sCo ins su (fun j => co (kd j))) s
    have a2 := gsum_s (oCo ins su g (fun j => co (kd j))) s
    unfold sCo at a1
    unfold oCo at a2
    show f_X12_isPaid_14 K (m + 1) _ _ _ _ = f_X12_isPaid_14 K m _ _ _ _
    conv => lhs; unfold f_X12_isPaid_14 f_X12_isPaid_61 f_X12_isPaid_107 f_X12_isPaid_110
    by_cases e : ins s = 0
    · rw [if_neg (fun q => q.1 e)] at a1 a2
      have e' := i1.mpr e
      simp (disch := omega) only [mI, let_, bi_, bv_, ckI, clI, nI_leI, nI_ltI, nI_eq, nI_add, add1, ad0, pk_mul, pk_sub, e0, e1, ge0, lt0, le0, gt0, lt1, l2_, l3, l4, l5, l6, l7, l8, l9, l10, l12, l13, l20, l26, l30, l40, l80, l99, l100, l240, l320, l999, l1000, l2000, a11, a01, z01, z00, bz0, bz1, s1, s2, l1, l2, upd_at, Nat.reduceEqDiff, reduceIte, q40, r0, e']
      rw [show gsum (sCo ins su fun j => co (kd j)) (s + 1) = _ from a1, show gsum (oCo ins su g fun j => co (kd j)) (s + 1) = _ from a2]
      rfl
    · obtain ⟨k1, k2, k3, k4⟩ := i3 e
      have e' : ¬ R.1 6 s = 0 := fun q => e (i1.mp q)
      have k5 : kd s < 5 := by omega
      obtain ⟨c1, c2⟩ := hc (kd s) k5
      by_cases e2 : su s = 0
      · rw [if_neg (fun q => q.2 e2)] at a1
        rw [if_pos ⟨e, e2⟩] at a2
        have k6 := hr ⟨s, hs, e, e2⟩
        simp (disch := omega) only [mI, let_, bi_, bv_, ckI, clI, nI_leI, nI_ltI, nI_eq, nI_add, add1, ad0, pk_mul, pk_sub, e0, e1, ge0, lt0, le0, gt0, lt1, l2_, l3, l4, l5, l6, l7, l8, l9, l10, l12, l13, l20, l26, l30, l40, l80, l99, l100, l240, l320, l999, l1000, l2000, a11, a01, z01, z00, bz0, bz1, s1, s2, l1, l2, upd_at, Nat.reduceEqDiff, reduceIte, q40, r0, e', i2, e2, k3, k1, c1, k6, nI_l, lN_mul, lN_add]
        rw [show gsum (sCo ins su fun j => co (kd j)) (s + 1) = _ from a1, show gsum (oCo ins su g fun j => co (kd j)) (s + 1) = _ from a2, Nat.mul_add, Nat.mul_assoc, Int64.sub_zero]
        rfl
      · rw [if_pos ⟨e, e2⟩] at a1
        rw [if_neg (fun q => e2 q.2)] at a2
        simp (disch := omega) only [mI, let_, bi_, bv_, ckI, clI, nI_leI, nI_ltI, nI_eq, nI_add, add1, ad0, pk_mul, pk_sub, e0, e1, ge0, lt0, le0, gt0, lt1, l2_, l3, l4, l5, l6, l7, l8, l9, l10, l12, l13, l20, l26, l30, l40, l80, l99, l100, l240, l320, l999, l1000, l2000, a11, a01, z01, z00, bz0, bz1, s1, s2, l1, l2, upd_at, Nat.reduceEqDiff, reduceIte, q40, r0, e', i2, e2, k3, k1, c1, nI_l, lN_mul, lN_add]
        rw [show gsum (sCo ins su fun j => co (kd j)) (s + 1) = _ from a1, show gsum (oCo ins su g fun j => co (kd j)) (s + 1) = _ from a2, lsub2, lN_add, Int64.add_zero]
        rfl
  · intro m
    show f_X12_isPaid_14 K (m + 1) _ _ (nI n) _ = _
    unfold f_X12_isPaid_14 mI
    rw [r0, if_pos (nI_le (by omega) (by omega))]
theorem paid_eq {C R : mm_M} {b S O r q : Nat} (hb : b ≤ 20000) (hS : S ≤ 20000) (hO : O ≤ 400000) (hr : r ≤ 40) (hq : q ≤ 800) (c4 : C.1 7 4 = nI r) (c5 : C.1 7 5 = nI q) (r5 : R.1 0 23 = nI q) : ∃ x, (x = 0 ∨ x = 1) ∧ f_X2_costsAtMost_7_95 (nI b) (nI S) (nI O) C = some (x, C) ∧ f_X12_isPaid_116 (lN b - lN S) (lN (r * O)) R = some (x, R) := by
  have main : ∀ W : Nat, W ≤ 800 → ∃ x, (x = 0 ∨ x = 1) ∧ f_X2_costsAtMost_7_110 (nI b) (nI S) (nI O) (nI W) C = some (x, C) ∧ f_X12_isPaid_134 (lN (r * O)) (lN b - lN S) (nI W) R = some (x, R) := by
    intro W hW
    have m1 : b * W ≤ 20000 * 800 := Nat.mul_le_mul hb hW
    have m2 : S * W ≤ 20000 * 800 := Nat.mul_le_mul hS hW
    have m3 : r * O ≤ 40 * 400000 := Nat.mul_le_mul hr hO
    unfold f_X2_costsAtMost_7_110 f_X12_isPaid_134
    simp (disch := omega) only [mI, let_, bi_, bv_, ckI, clI, nI_leI, nI_ltI, nI_eq, nI_add, add1, ad0, pk_mul, pk_sub, e0, e1, ge0, lt0, le0, gt0, lt1, l2_, l3, l4, l5, l6, l7, l8, l9, l10, l12, l13, l20, l26, l30, l40, l80, l99, l100, l240, l320, l999, l1000, l2000, a11, a01, z01, z00, bz0, bz1, s1, s2, l1, l2, upd_at, Nat.reduceEqDiff, reduceIte, c4, nI_l]
    have e : (lN b - lN S) * lN W = lN (b * W) - lN (S * W) := by
      rw [Int64.sub_mul, lN_mul, lN_mul]
    rw [e]
    have t : (0 < lg_cmp (lN (r * O)) (lN (b * W) - lN (S * W))) ↔ b * W < S * W + r * O := by
      rw [lg_cmp_gt, Int64.lt_iff_toInt_lt, lsub_toInt (by omega) (by omega), pk_lT (by omega)]
      omega
    by_cases z : b * W < S * W + r * O
    · rw [if_pos z, if_pos (t.mpr z)]
      exact ⟨0, Or.inl rfl, rfl, rfl⟩
    · rw [if_neg z, if_neg (fun y => z (t.mp y))]
      exact ⟨1, Or.inr rfl, rfl, rfl⟩
  unfold f_X2_costsAtMost_7_95 f_X12_isPaid_116 mI
  rw [c5, r5]
  by_cases z : q = 0
  · subst z
    rw [if_pos (show nI 0 ≤ 0 by decide +kernel), if_pos (show nI 0 ≤ 0 by decide +kernel)]
    exact main 1 (by omega)
  · rw [if_neg (nI_nle (by omega) (by omega)), if_neg (nI_nle (by omega) (by omega))]
    exact main q hq

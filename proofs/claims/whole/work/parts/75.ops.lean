/-- what the reference's holds may change -/
def kpH (R R' : mm_M) : Prop := (∀ a, a ≠ 0 → a ≠ 24 → a ≠ 26 → a ≠ 27 → R'.1 a = R.1 a) ∧ ∀ j, j ≠ 34 → j ≠ 35 → j ≠ 36 → j ≠ 39 → j ≠ 41 → j ≠ 42 → R'.1 0 j = R.1 0 j
theorem hold12 {R : mm_M} {r z : Nat} (hr : r < 20) (hz : z ≤ 80) (h34 : R.1 0 34 = nI z) (K : mm_M → Option (Int32 × mm_M)) : ∃ R', f_X12_holds_12 K mm_fu (nI r) (nI 0) R = K R' ∧ (∀ k, k < z → R'.1 24 k = R.1 22 (80 * r + k)) ∧ ∀ a, a ≠ 24 → R'.1 a = R.1 a := by
  refine lpMf (fun n s M => f_X12_holds_12 K n (nI r) (nI s) M) (fun s M => (∀ k, k < s → M.1 24 k = R.1 22 (80 * r + k)) ∧ ∀ a, a ≠ 24 → M.1 a = R.1 a) (fun b => ∃ R', b = K R' ∧ (∀ k, k < z → R'.1 24 k = R.1 22 (80 * r + k)) ∧ ∀ a, a ≠ 24 → R'.1 a = R.1 a) (c := z) R (by omega) ⟨fun k hk => absurd hk (by omega), fun _ _ => rfl⟩ ?_ ?_
  · intro s m M hs hI ih
    obtain ⟨i1, i2⟩ := hI
    have q1 : ¬ z ≤ s := by omega
    have k0 : M.1 0 = R.1 0 := i2 0 (by omega)
    have k22 : M.1 22 = R.1 22 := i2 22 (by omega)
    show ∃ R', f_X12_holds_12 K (m + 1) (nI r) (nI s) M = K R' ∧ _
    unfold f_X12_holds_12
    simp (disch := omega) only [mI, let_, bi_, bv_, ckI, clI, nI_leI, nI_ltI, nI_eq, nI_add, add1, ad0, pk_mul, pk_sub, e0, e1, ge0, lt0, le0, gt0, lt1, l2_, l3, l4, l5, l6, l7, l8, l9, l10, l12, l13, l20, l26, l30, l40, l80, l99, l100, l240, l320, l999, l1000, l2000, a11, a01, z01, z00, bz0, bz1, s1, s2, l1, l2, upd_at, Nat.reduceEqDiff, reduceIte, q1, k0, h34, k22]
    refine ih _ ⟨fun k hk => ?_, fun a ha => ?_⟩
    · simp (disch := omega) only [mI, let_, bi_, bv_, ckI, clI, nI_leI, nI_ltI, nI_eq, nI_add, add1, ad0, pk_mul, pk_sub, e0, e1, ge0, lt0, le0, gt0, lt1, l2_, l3, l4, l5, l6, l7, l8, l9, l10, l12, l13, l20, l26, l30, l40, l80, l99, l100, l240, l320, l999, l1000, l2000, a11, a01, z01, z00, bz0, bz1, s1, s2, l1, l2, upd_at, Nat.reduceEqDiff, reduceIte]
      by_cases e : k = s
      · rw [if_pos e, e]
      · rw [if_neg e]
        exact i1 k (by omega)
    · simp (disch := omega) only [mI, let_, bi_, bv_, ckI, clI, nI_leI, nI_ltI, nI_eq, nI_add, add1, ad0, pk_mul, pk_sub, e0, e1, ge0, lt0, le0, gt0, lt1, l2_, l3, l4, l5, l6, l7, l8, l9, l10, l12, l13, l20, l26, l30, l40, l80, l99, l100, l240, l320, l999, l1000, l2000, a11, a01, z01, z00, bz0, bz1, s1, s2, l1, l2, upd_at, Nat.reduceEqDiff, reduceIte, ha]
      exact i2 a ha
  · intro m M hI
    show ∃ R', f_X12_holds_12 K (m + 1) (nI r) (nI z) M = K R' ∧ _
    unfold f_X12_holds_12 mI
    rw [hI.2 0 (by omega), h34, if_pos (nI_le (by omega) (by omega))]
    exact ⟨M, rfl, hI⟩
/-- one rule, both sides -/
theorem holds_r {C R : mm_M} {n u r : Nat} {tk : Nat → Int32} (hu : u ≤ 20) (hr : r < u) (h : rRule n u tk (C.1 48) (C.1 49) (R.1 22) (R.1 23)) (hc : corr (C.1 19) (R.1 25)) : ∃ v C' R', f_X5_value (nI r) C = some (v, C') ∧ f_X12_holds (nI r) R = some (if 0 < v then 1 else 0, R') ∧ (∀ a, a ≠ 50 → C'.1 a = C.1 a) ∧ kpH R R' := by
  obtain ⟨z, cd, y1, y2, y3, y4, y5, y6⟩ := h.2 r hr
  obtain ⟨R1, g1, g2, g3⟩ := hold12 (R := sI R 0 34 (nI z)) (r := r) (z := z) (by omega) y2 (by simp (disch := omega) only [mI, let_, bi_, bv_, ckI, clI, nI_leI, nI_ltI, nI_eq, nI_add, add1, ad0, pk_mul, pk_sub, e0, e1, ge0, lt0, le0, gt0, lt1, l2_, l3, l4, l5, l6, l7, l8, l9, l10, l12, l13, l20, l26, l30, l40, l80, l99, l100, l240, l320, l999, l1000, l2000, a11, a01, z01, z00, bz0, bz1, s1, s2, l1, l2, upd_at, Nat.reduceEqDiff, reduceIte]) f_X12_holds_43
  obtain ⟨v, R', e1, e2, e3⟩ := y6 (C.1 19) R1 (by rw [g3 25 (by omega)]; simp (disch := omega) only [mI, let_, bi_, bv_, ckI, clI, nI_leI, nI_ltI, nI_eq, nI_add, add1, ad0, pk_mul, pk_sub, e0, e1, ge0, lt0, le0, gt0, lt1, l2_, l3, l4, l5, l6, l7, l8, l9, l10, l12, l13, l20, l26, l30, l40, l80, l99, l100, l240, l320, l999, l1000, l2000, a11, a01, z01, z00, bz0, bz1, s1, s2, l1, l2, upd_at, Nat.reduceEqDiff, reduceIte]; exact hc) (by rw [g3 0 (by omega)]; simp (disch := omega) only [mI, let_, bi_, bv_, ckI, clI, nI_leI, nI_ltI, nI_eq, nI_add, add1, ad0, pk_mul, pk_sub, e0, e1, ge0, lt0, le0, gt0, lt1, l2_, l3, l4, l5, l6, l7, l8, l9, l10, l12, l13, l20, l26, l30, l40, l80, l99, l100, l240, l320, l999, l1000, l2000, a11, a01, z01, z00, bz0, bz1, s1, s2, l1, l2, upd_at, Nat.reduceEqDiff, reduceIte]) (fun k hk => by rw [g2 k hk]; simp (disch := omega) only [mI, let_, bi_, bv_, ckI, clI, nI_leI, nI_ltI, nI_eq, nI_add, add1, ad0, pk_mul, pk_sub, e0, e1, ge0, lt0, le0, gt0, lt1, l2_, l3, l4, l5, l6, l7, l8, l9, l10, l12, l13, l20, l26, l30, l40, l80, l99, l100, l240, l320, l999, l1000, l2000, a11, a01, z01, z00, bz0, bz1, s1, s2, l1, l2, upd_at, Nat.reduceEqDiff, reduceIte])
  obtain ⟨C', w1, w2⟩ := value_ok (C := C) (r := r) (v := v) (cd := cd) (by omega) y4 y3 y5 e2
  refine ⟨v, C', R', w1, ?_, w2, ⟨fun a a0 a1 a2 a3 => ?_, fun j j1 j2 j3 j4 j5 j6 => ?_⟩⟩
  · unfold f_X12_holds
    rw [ckI (show r < 20 by omega) (by omega), let_, clI (by omega)]
    unfold mI
    rw [y1, show f_X12_holds_12 f_X12_holds_43 mm_fu (nI r) 0 (sI R 0 34 (nI z)) = _ from g1]
    unfold f_X12_holds_43
    rw [e1, bi_, bzx (ite01 _)]
  · rw [e3.1 a a0 a2 a3, g3 a a1]
    simp (disch := omega) only [mI, let_, bi_, bv_, ckI, clI, nI_leI, nI_ltI, nI_eq, nI_add, add1, ad0, pk_mul, pk_sub, e0, e1, ge0, lt0, le0, gt0, lt1, l2_, l3, l4, l5, l6, l7, l8, l9, l10, l12, l13, l20, l26, l30, l40, l80, l99, l100, l240, l320, l999, l1000, l2000, a11, a01, z01, z00, bz0, bz1, s1, s2, l1, l2, upd_at, Nat.reduceEqDiff, reduceIte, a0]
  · rw [e3.2 j j2 j3 j4 j5 j6, g3 0 (by omega)]
    simp (disch := omega) only [mI, let_, bi_, bv_, ckI, clI, nI_leI, nI_ltI, nI_eq, nI_add, add1, ad0, pk_mul, pk_sub, e0, e1, ge0, lt0, le0, gt0, lt1, l2_, l3, l4, l5, l6, l7, l8, l9, l10, l12, l13, l20, l26, l30, l40, l80, l99, l100, l240, l320, l999, l1000, l2000, a11, a01, z01, z00, bz0, bz1, s1, s2, l1, l2, upd_at, Nat.reduceEqDiff, reduceIte, j1]
/-- what the rule in force says, both sides -/
theorem holds_ok {C R : mm_M} {n u : Nat} {tk : Nat → Int32} (hu : u ≤ 20) (c1 : C.1 5 5 = nI u) (r1 : R.1 0 28 = nI u) (c2 : C.1 46 = R.1 20) (c3 : C.1 47 = R.1 21) (hR : iRule u (R.1 20) (R.1 21)) (h : rRule n u tk (C.1 48) (C.1 49) (R.1 22) (R.1 23)) (hc : corr (C.1 19) (R.1 25)) (x y : Int32) : (f_X5_holds x y C = some (if x = 0 then 1 else 0, C) ∧ f_X12_ruleOn x y R = some (-1, R)) ∨ ∃ p b C' R', p < u ∧ (b = 0 ∨ b = 1) ∧ f_X5_holds x y C = some (b, C') ∧ f_X12_ruleOn x y R = some (nI p, R) ∧ f_X12_holds (nI p) R = some (b, R') ∧ (∀ a, a ≠ 50 → C'.1 a = C.1 a) ∧ kpH R R' := by
  rcases force_ok hu c1 r1 c2 c3 hR x y with ⟨e1, e2⟩ | ⟨p, hp, e1, e2⟩
  · refine Or.inl ⟨?_, e2⟩
    unfold f_X5_holds
    rw [e1, bi_, if_neg (by decide +kernel)]
    split <;> rfl
  · obtain ⟨v, C', R', g1, g2, g3, g4⟩ := holds_r (C := C) (R := R) hu hp h hc
    refine Or.inr ⟨p, if 0 < v then 1 else 0, C', R', hp, ite01 _, ?_, e2, g2, g3, g4⟩
    unfold f_X5_holds
    rw [e1, bi_, if_pos (nI_pos' (by omega)), g1, bi_]
    by_cases z : 0 < v
    · rw [if_pos z, if_neg (nle_of.mpr z)]
    · rw [if_neg z, if_pos (nlt_of.mp z)]

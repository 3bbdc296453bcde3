theorem add44 {C : mm_M} {u len : Nat} (hu : u < 20) (hl : len ≤ 80) (K : Int32 → mm_M → Option (Int32 × mm_M)) : ∃ C', f_X5_add_44 K mm_fu (nI len) (nI u) (nI 0) C = K (nI u) C' ∧ (∀ i, i < len → C'.1 49 (80 * u + i) = C.1 60 i) ∧ (∀ j, j < 80 * u → C'.1 49 j = C.1 49 j) ∧ ∀ a, a ≠ 49 → C'.1 a = C.1 a := by
  refine lpMf (fun n s M => f_X5_add_44 K n (nI len) (nI u) (nI s) M) (fun s M => (∀ i, i < s → M.1 49 (80 * u + i) = C.1 60 i) ∧ (∀ j, j < 80 * u → M.1 49 j = C.1 49 j) ∧ ∀ a, a ≠ 49 → M.1 a = C.1 a) (fun b => ∃ C', b = K (nI u) C' ∧ (∀ i, i < len → C'.1 49 (80 * u + i) = C.1 60 i) ∧ (∀ j, j < 80 * u → C'.1 49 j = C.1 49 j) ∧ ∀ a, a ≠ 49 → C'.1 a = C.1 a) (c := len) C (by omega) ⟨fun i hi => absurd hi (by omega), fun _ _ => rfl, fun _ _ => rfl⟩ ?_ ?_
  · intro s m M hs hI ih
    obtain ⟨i1, i2, i3⟩ := hI
    have q1 : ¬ len ≤ s := by omega
    have q2 : ¬ 80 ≤ s := by omega
    have k60 : M.1 60 = C.1 60 := i3 60 (by omega)
    show ∃ C', f_X5_add_44 K (m + 1) (nI len) (nI u) (nI s) M = K (nI u) C' ∧ _
    unfold f_X5_add_44
    simp (disch := omega) only [mI, let_, bi_, bv_, ckI, clI, nI_leI, nI_ltI, nI_eq, nI_add, add1, ad0, pk_mul, pk_sub, e0, e1, ge0, lt0, le0, gt0, lt1, l2_, l3, l4, l5, l6, l7, l8, l9, l10, l12, l13, l20, l26, l30, l40, l80, l99, l100, l240, l320, l999, l1000, l2000, a11, a01, z01, z00, bz0, bz1, s1, s2, l1, l2, upd_at, Nat.reduceEqDiff, reduceIte, q1, q2, k60]
    refine ih _ ⟨fun i hi => ?_, fun j hj => ?_, fun a a1 => ?_⟩
    · simp (disch := omega) only [mI, let_, bi_, bv_, ckI, clI, nI_leI, nI_ltI, nI_eq, nI_add, add1, ad0, pk_mul, pk_sub, e0, e1, ge0, lt0, le0, gt0, lt1, l2_, l3, l4, l5, l6, l7, l8, l9, l10, l12, l13, l20, l26, l30, l40, l80, l99, l100, l240, l320, l999, l1000, l2000, a11, a01, z01, z00, bz0, bz1, s1, s2, l1, l2, upd_at, Nat.reduceEqDiff, reduceIte]
      by_cases e : i = s
      · rw [e, if_pos (by omega)]
      · rw [if_neg (by omega)]
        exact i1 i (by omega)
    · simp (disch := omega) only [mI, let_, bi_, bv_, ckI, clI, nI_leI, nI_ltI, nI_eq, nI_add, add1, ad0, pk_mul, pk_sub, e0, e1, ge0, lt0, le0, gt0, lt1, l2_, l3, l4, l5, l6, l7, l8, l9, l10, l12, l13, l20, l26, l30, l40, l80, l99, l100, l240, l320, l999, l1000, l2000, a11, a01, z01, z00, bz0, bz1, s1, s2, l1, l2, upd_at, Nat.reduceEqDiff, reduceIte]
      rw [if_neg (by omega)]
      exact i2 j hj
    · simp (disch := omega) only [mI, let_, bi_, bv_, ckI, clI, nI_leI, nI_ltI, nI_eq, nI_add, add1, ad0, pk_mul, pk_sub, e0, e1, ge0, lt0, le0, gt0, lt1, l2_, l3, l4, l5, l6, l7, l8, l9, l10, l12, l13, l20, l26, l30, l40, l80, l99, l100, l240, l320, l999, l1000, l2000, a11, a01, z01, z00, bz0, bz1, s1, s2, l1, l2, upd_at, Nat.reduceEqDiff, reduceIte, a1]
      exact i3 a a1
  · intro m M hI
    show ∃ C', f_X5_add_44 K (m + 1) (nI len) (nI u) (nI len) M = K (nI u) C' ∧ _
    unfold f_X5_add_44
    rw [if_pos (nI_le (by omega) (by omega))]
    exact ⟨M, rfl, hI⟩
theorem rule69 {R : mm_M} {u z : Nat} (hu : u < 20) (hz : z ≤ 80) (h1 : R.1 0 27 = nI z) (h2 : R.1 0 28 = nI u) (x1 x2 : Int32) (K : Int32 → Int32 → mm_M → Option (Int32 × mm_M)) : ∃ R', f_X12_rule_69 K mm_fu x1 x2 (nI 0) R = K x1 x2 R' ∧ (∀ i, i < z → R'.1 22 (80 * u + i) = R.1 19 i ∧ R'.1 24 i = R.1 19 i) ∧ (∀ j, j < 80 * u → R'.1 22 j = R.1 22 j) ∧ ∀ a, a ≠ 22 → a ≠ 24 → R'.1 a = R.1 a := by
  refine lpMf (fun n s M => f_X12_rule_69 K n x1 x2 (nI s) M) (fun s M => (∀ i, i < s → M.1 22 (80 * u + i) = R.1 19 i ∧ M.1 24 i = R.1 19 i) ∧ (∀ j, j < 80 * u → M.1 22 j = R.1 22 j) ∧ ∀ a, a ≠ 22 → a ≠ 24 → M.1 a = R.1 a) (fun b => ∃ R', b = K x1 x2 R' ∧ (∀ i, i < z → R'.1 22 (80 * u + i) = R.1 19 i ∧ R'.1 24 i = R.1 19 i) ∧ (∀ j, j < 80 * u → R'.1 22 j = R.1 22 j) ∧ ∀ a, a ≠ 22 → a ≠ 24 → R'.1 a = R.1 a) (c := z) R (by omega) ⟨fun i hi => absurd hi (by omega), fun _ _ => rfl, fun _ _ _ => rfl⟩ ?_ ?_
  · intro s m M hs hI ih
    obtain ⟨i1, i2, i3⟩ := hI
    have q1 : ¬ z ≤ s := by omega
    have k0 : M.1 0 = R.1 0 := i3 0 (by omega) (by omega)
    have k19 : M.1 19 = R.1 19 := i3 19 (by omega) (by omega)
    show ∃ R', f_X12_rule_69 K (m + 1) x1 x2 (nI s) M = K x1 x2 R' ∧ _
    unfold f_X12_rule_69
    simp (disch := omega) only [mI, let_, bi_, bv_, ckI, clI, nI_leI, nI_ltI, nI_eq, nI_add, add1, ad0, pk_mul, pk_sub, e0, e1, ge0, lt0, le0, gt0, lt1, l2_, l3, l4, l5, l6, l7, l8, l9, l10, l12, l13, l20, l26, l30, l40, l80, l99, l100, l240, l320, l999, l1000, l2000, a11, a01, z01, z00, bz0, bz1, s1, s2, l1, l2, upd_at, Nat.reduceEqDiff, reduceIte, q1, k0, k19, h1, h2]
    refine ih _ ⟨fun i hi => ?_, fun j hj => ?_, fun a a1 a2 => ?_⟩
    · simp (disch := omega) only [mI, let_, bi_, bv_, ckI, clI, nI_leI, nI_ltI, nI_eq, nI_add, add1, ad0, pk_mul, pk_sub, e0, e1, ge0, lt0, le0, gt0, lt1, l2_, l3, l4, l5, l6, l7, l8, l9, l10, l12, l13, l20, l26, l30, l40, l80, l99, l100, l240, l320, l999, l1000, l2000, a11, a01, z01, z00, bz0, bz1, s1, s2, l1, l2, upd_at, Nat.reduceEqDiff, reduceIte]
      by_cases e : i = s
      · rw [e, if_pos (by omega), if_pos rfl]
        exact ⟨rfl, rfl⟩
      · rw [if_neg (by omega), if_neg e]
        exact i1 i (by omega)
    · simp (disch := omega) only [mI, let_, bi_, bv_, ckI, clI, nI_leI, nI_ltI, nI_eq, nI_add, add1, ad0, pk_mul, pk_sub, e0, e1, ge0, lt0, le0, gt0, lt1, l2_, l3, l4, l5, l6, l7, l8, l9, l10, l12, l13, l20, l26, l30, l40, l80, l99, l100, l240, l320, l999, l1000, l2000, a11, a01, z01, z00, bz0, bz1, s1, s2, l1, l2, upd_at, Nat.reduceEqDiff, reduceIte]
      rw [if_neg (by omega)]
      exact i2 j hj
    · simp (disch := omega) only [mI, let_, bi_, bv_, ckI, clI, nI_leI, nI_ltI, nI_eq, nI_add, add1, ad0, pk_mul, pk_sub, e0, e1, ge0, lt0, le0, gt0, lt1, l2_, l3, l4, l5, l6, l7, l8, l9, l10, l12, l13, l20, l26, l30, l40, l80, l99, l100, l240, l320, l999, l1000, l2000, a11, a01, z01, z00, bz0, bz1, s1, s2, l1, l2, upd_at, Nat.reduceEqDiff, reduceIte, a1, a2]
      exact i3 a a1 a2
  · intro m M hI
    show ∃ R', f_X12_rule_69 K (m + 1) x1 x2 (nI z) M = K x1 x2 R' ∧ _
    unfold f_X12_rule_69 mI
    rw [hI.2.2 0 (by omega) (by omega), h1, if_pos (nI_le (by omega) (by omega))]
    exact ⟨M, rfl, hI⟩
theorem ok_rule (a b : Int32) : op_i Rel (f_X11_rule a b) (f_X12_rule a b) := by
  intro C R h
  unfold f_X12_rule
  rw [let_]
  have h := rel_t h 0
  generalize sI R 0 0 0 = R at h ⊢
  show ends _ _
  unfold f_X11_rule
  try unfold mI
  have h' := h
  obtain ⟨⟨⟨bd, bn, bt, bu, bv, bw, bl⟩, ⟨sa, sb, sc, sd, se, sf, sg, sh⟩, ⟨ka, kb, kc, kd, ke⟩, ⟨ta, tb, tc, td, te, tf, tg⟩, ⟨ra, rb, rc, rd, re_, rf⟩, ⟨qa, qb, qc, qd, qe⟩⟩, hr, hl, hw, d, n, t, u, v, w, ⟨⟨⟨id1, id2⟩, ⟨in1, in2⟩, ⟨it1, it2⟩, ⟨iu1, iu2⟩, ⟨iv1, iv2⟩, ⟨iw1, iw2⟩, ilv⟩, jS, jK, jT, jR, jC, jB, jM, jD, jL⟩, hrule, hhome⟩ := h'
  unfold f_X11_rule_48 f_X12_rule_52 f_X11_isUse
  simp only [bi_id]
  have hu := bu.trans iu1
  have hd := bd.trans id1
  have hv := bv.trans iv1
  rcases ix_of a (n := 5) (by omega) with ⟨k, hk, rfl⟩ | ha
  · rw [if_neg (nI_pos (by omega)), if_neg (show ¬ (5 : Int32) ≤ nI k from nI_ge (b := 5) hk (by decide)), bi_, if_neg n10, in_jx (n := 4) R (by omega) rfl hk, bi_, if_neg n10, hd, id1]
    by_cases b1 : nI d ≤ b
    · rw [if_pos b1, if_pos b1]
      by_cases b2 : 2000 < b
      · rw [if_pos b2, if_pos b2]
        exact ref6 h
      · rw [if_neg b2, if_neg b2, hu, iu1]
        by_cases b3 : u = 20
        · subst b3
          rw [if_neg (show ¬ nI 20 < 20 by decide +kernel), if_pos (show nI 20 = 20 from rfl)]
          exact ref6 h
        · rw [if_pos (show nI u < 20 from nI_lt (b := 20) (by omega) (by decide)), if_neg (show ¬ nI u = 20 from fun q => b3 ((nI_eq (a := u) (b := 20) (by omega) (by omega)).mp q)), let_]
          have b4 : b ≤ 2000 := by
            rw [Int32.lt_iff_toInt_lt] at b2
            rw [Int32.le_iff_toInt_le]
            omega
          obtain ⟨e, rfl, e1', e2'⟩ := num_of (lo := nI d) (hi := 2000) d 2000 rfl rfl (by omega) (by omega) b1 b4
          obtain ⟨o, ho, hol⟩ := text_ok (R.1 19) iv2
          obtain ⟨R1, r1, r2, r3, r4⟩ := rule69 (R := sI R 0 34 (R.1 0 27)) (u := u) (z := v) (by omega) iv2 (by simp (disch := omega) only [mI, let_, bi_, bv_, ckI, clI, nI_leI, nI_ltI, nI_eq, nI_add, add1, ad0, pk_mul, pk_sub, e0, e1, ge0, lt0, le0, gt0, lt1, l2_, l3, l4, l5, l6, l7, l8, l9, l10, l12, l13, l20, l26, l30, l40, l80, l99, l100, l240, l320, l999, l1000, l2000, a11, a01, z01, z00, bz0, bz1, s1, s2, l1, l2, upd_at, Nat.reduceEqDiff, reduceIte]; exact iv1) (by simp (disch := omega) only [mI, let_, bi_, bv_, ckI, clI, nI_leI, nI_ltI, nI_eq, nI_add, add1, ad0, pk_mul, pk_sub, e0, e1, ge0, lt0, le0, gt0, lt1, l2_, l3, l4, l5, l6, l7, l8, l9, l10, l12, l13, l20, l26, l30, l40, l80, l99, l100, l240, l320, l999, l1000, l2000, a11, a01, z01, z00, bz0, bz1, s1, s2, l1, l2, upd_at, Nat.reduceEqDiff, reduceIte]; exact iu1) (nI k) (nI e) f_X12_rule_115
          rw [show f_X12_rule_69 f_X12_rule_115 mm_fu (nI k) (nI e) 0 (sI R 0 34 (R.1 0 27)) = _ from r1]
          unfold f_X12_rule_115
          rw [let_]
          have q0 : ∀ j, j ≠ 27 → j ≠ 34 → (sI R1 0 27 0).1 0 j = R.1 0 j := by
            intro j j1 j2
            simp (disch := omega) only [mI, let_, bi_, bv_, ckI, clI, nI_leI, nI_ltI, nI_eq, nI_add, add1, ad0, pk_mul, pk_sub, e0, e1, ge0, lt0, le0, gt0, lt1, l2_, l3, l4, l5, l6, l7, l8, l9, l10, l12, l13, l20, l26, l30, l40, l80, l99, l100, l240, l320, l999, l1000, l2000, a11, a01, z01, z00, bz0, bz1, s1, s2, l1, l2, upd_at, Nat.reduceEqDiff, reduceIte, j1, j2]
            rw [r4 0 (by omega) (by omega)]
            simp (disch := omega) only [mI, let_, bi_, bv_, ckI, clI, nI_leI, nI_ltI, nI_eq, nI_add, add1, ad0, pk_mul, pk_sub, e0, e1, ge0, lt0, le0, gt0, lt1, l2_, l3, l4, l5, l6, l7, l8, l9, l10, l12, l13, l20, l26, l30, l40, l80, l99, l100, l240, l320, l999, l1000, l2000, a11, a01, z01, z00, bz0, bz1, s1, s2, l1, l2, upd_at, Nat.reduceEqDiff, reduceIte, j1, j2]
          have q34 : (sI R1 0 27 0).1 0 34 = nI v := by
            simp (disch := omega) only [mI, let_, bi_, bv_, ckI, clI, nI_leI, nI_ltI, nI_eq, nI_add, add1, ad0, pk_mul, pk_sub, e0, e1, ge0, lt0, le0, gt0, lt1, l2_, l3, l4, l5, l6, l7, l8, l9, l10, l12, l13, l20, l26, l30, l40, l80, l99, l100, l240, l320, l999, l1000, l2000, a11, a01, z01, z00, bz0, bz1, s1, s2, l1, l2, upd_at, Nat.reduceEqDiff, reduceIte]
            rw [r4 0 (by omega) (by omega)]
            simp (disch := omega) only [mI, let_, bi_, bv_, ckI, clI, nI_leI, nI_ltI, nI_eq, nI_add, add1, ad0, pk_mul, pk_sub, e0, e1, ge0, lt0, le0, gt0, lt1, l2_, l3, l4, l5, l6, l7, l8, l9, l10, l12, l13, l20, l26, l30, l40, l80, l99, l100, l240, l320, l999, l1000, l2000, a11, a01, z01, z00, bz0, bz1, s1, s2, l1, l2, upd_at, Nat.reduceEqDiff, reduceIte]
            exact iv1
          have q27 : (sI R1 0 27 0).1 0 27 = nI 0 := by
            simp (disch := omega) only [mI, let_, bi_, bv_, ckI, clI, nI_leI, nI_ltI, nI_eq, nI_add, add1, ad0, pk_mul, pk_sub, e0, e1, ge0, lt0, le0, gt0, lt1, l2_, l3, l4, l5, l6, l7, l8, l9, l10, l12, l13, l20, l26, l30, l40, l80, l99, l100, l240, l320, l999, l1000, l2000, a11, a01, z01, z00, bz0, bz1, s1, s2, l1, l2, upd_at, Nat.reduceEqDiff, reduceIte]
            rfl
          have qz : ∀ z, z ≠ 0 → z ≠ 22 → z ≠ 24 → (sI R1 0 27 0).1 z = R.1 z := by
            intro z z0 z1 z2
            simp (disch := omega) only [mI, let_, bi_, bv_, ckI, clI, nI_leI, nI_ltI, nI_eq, nI_add, add1, ad0, pk_mul, pk_sub, e0, e1, ge0, lt0, le0, gt0, lt1, l2_, l3, l4, l5, l6, l7, l8, l9, l10, l12, l13, l20, l26, l30, l40, l80, l99, l100, l240, l320, l999, l1000, l2000, a11, a01, z01, z00, bz0, bz1, s1, s2, l1, l2, upd_at, Nat.reduceEqDiff, reduceIte, z0]
            rw [r4 z z1 z2]
            simp (disch := omega) only [mI, let_, bi_, bv_, ckI, clI, nI_leI, nI_ltI, nI_eq, nI_add, add1, ad0, pk_mul, pk_sub, e0, e1, ge0, lt0, le0, gt0, lt1, l2_, l3, l4, l5, l6, l7, l8, l9, l10, l12, l13, l20, l26, l30, l40, l80, l99, l100, l240, l320, l999, l1000, l2000, a11, a01, z01, z00, bz0, bz1, s1, s2, l1, l2, upd_at, Nat.reduceEqDiff, reduceIte, z0]
          have q24 : ∀ i, i < v → (sI R1 0 27 0).1 24 i = R.1 19 i := by
            intro i hi
            simp (disch := omega) only [mI, let_, bi_, bv_, ckI, clI, nI_leI, nI_ltI, nI_eq, nI_add, add1, ad0, pk_mul, pk_sub, e0, e1, ge0, lt0, le0, gt0, lt1, l2_, l3, l4, l5, l6, l7, l8, l9, l10, l12, l13, l20, l26, l30, l40, l80, l99, l100, l240, l320, l999, l1000, l2000, a11, a01, z01, z00, bz0, bz1, s1, s2, l1, l2, upd_at, Nat.reduceEqDiff, reduceIte]
            rw [(r2 i hi).2]
            simp (disch := omega) only [mI, let_, bi_, bv_, ckI, clI, nI_leI, nI_ltI, nI_eq, nI_add, add1, ad0, pk_mul, pk_sub, e0, e1, ge0, lt0, le0, gt0, lt1, l2_, l3, l4, l5, l6, l7, l8, l9, l10, l12, l13, l20, l26, l30, l40, l80, l99, l100, l240, l320, l999, l1000, l2000, a11, a01, z01, z00, bz0, bz1, s1, s2, l1, l2, upd_at, Nat.reduceEqDiff, reduceIte]
          have q22 : ∀ i, i < v → (sI R1 0 27 0).1 22 (80 * u + i) = R.1 19 i := by
            intro i hi
            simp (disch := omega) only [mI, let_, bi_, bv_, ckI, clI, nI_leI, nI_ltI, nI_eq, nI_add, add1, ad0, pk_mul, pk_sub, e0, e1, ge0, lt0, le0, gt0, lt1, l2_, l3, l4, l5, l6, l7, l8, l9, l10, l12, l13, l20, l26, l30, l40, l80, l99, l100, l240, l320, l999, l1000, l2000, a11, a01, z01, z00, bz0, bz1, s1, s2, l1, l2, upd_at, Nat.reduceEqDiff, reduceIte]
            rw [(r2 i hi).1]
            simp (disch := omega) only [mI, let_, bi_, bv_, ckI, clI, nI_leI, nI_ltI, nI_eq, nI_add, add1, ad0, pk_mul, pk_sub, e0, e1, ge0, lt0, le0, gt0, lt1, l2_, l3, l4, l5, l6, l7, l8, l9, l10, l12, l13, l20, l26, l30, l40, l80, l99, l100, l240, l320, l999, l1000, l2000, a11, a01, z01, z00, bz0, bz1, s1, s2, l1, l2, upd_at, Nat.reduceEqDiff, reduceIte]
          have q22' : ∀ j, j < 80 * u → (sI R1 0 27 0).1 22 j = R.1 22 j := by
            intro j hj
            simp (disch := omega) only [mI, let_, bi_, bv_, ckI, clI, nI_leI, nI_ltI, nI_eq, nI_add, add1, ad0, pk_mul, pk_sub, e0, e1, ge0, lt0, le0, gt0, lt1, l2_, l3, l4, l5, l6, l7, l8, l9, l10, l12, l13, l20, l26, l30, l40, l80, l99, l100, l240, l320, l999, l1000, l2000, a11, a01, z01, z00, bz0, bz1, s1, s2, l1, l2, upd_at, Nat.reduceEqDiff, reduceIte]
            rw [r3 j hj]
            simp (disch := omega) only [mI, let_, bi_, bv_, ckI, clI, nI_leI, nI_ltI, nI_eq, nI_add, add1, ad0, pk_mul, pk_sub, e0, e1, ge0, lt0, le0, gt0, lt1, l2_, l3, l4, l5, l6, l7, l8, l9, l10, l12, l13, l20, l26, l30, l40, l80, l99, l100, l240, l320, l999, l1000, l2000, a11, a01, z01, z00, bz0, bz1, s1, s2, l1, l2, upd_at, Nat.reduceEqDiff, reduceIte]
          generalize sI R1 0 27 0 = R2 at q0 q34 q27 qz q24 q22 q22' ⊢
          obtain ⟨F, hF⟩ := corr_ex (R2.1 25)
          have hc1 := ho.1 C rc hv
          have hr1 := ho.2 F R2 hF q34 q24
          cases o with
          | inl f =>
            have hf : f ≤ 80 := hol
            obtain ⟨C1, g1, g2⟩ := hc1
            obtain ⟨R3, w1, w2, w3, w4⟩ := hr1
            unfold mI
            rw [g1, bi_, let_, w1, bi_, w3, if_neg n10, w2, if_neg (nI_pos (by omega))]
            refine ends_of ?_
            have kcx : ∀ z, z ≠ 9 → z ≠ 60 → (sI C1 9 2 0).1 z = C.1 z := fun z z1 z2 => by
              simp (disch := omega) only [mI, let_, bi_, bv_, ckI, clI, nI_leI, nI_ltI, nI_eq, nI_add, add1, ad0, pk_mul, pk_sub, e0, e1, ge0, lt0, le0, gt0, lt1, l2_, l3, l4, l5, l6, l7, l8, l9, l10, l12, l13, l20, l26, l30, l40, l80, l99, l100, l240, l320, l999, l1000, l2000, a11, a01, z01, z00, bz0, bz1, s1, s2, l1, l2, upd_at, Nat.reduceEqDiff, reduceIte, z1]
              exact g2.1 z z1 z2
            have kc9 : (sI C1 9 2 0).1 9 2 = nI 0 := by (simp (disch := omega) only [mI, let_, bi_, bv_, ckI, clI, nI_leI, nI_ltI, nI_eq, nI_add, add1, ad0, pk_mul, pk_sub, e0, e1, ge0, lt0, le0, gt0, lt1, l2_, l3, l4, l5, l6, l7, l8, l9, l10, l12, l13, l20, l26, l30, l40, l80, l99, l100, l240, l320, l999, l1000, l2000, a11, a01, z01, z00, bz0, bz1, s1, s2, l1, l2, upd_at, Nat.reduceEqDiff, reduceIte]; rfl)
            have kr : ∀ z, z ≠ 0 → z ≠ 22 → z ≠ 24 → z ≠ 26 → z ≠ 27 → R3.1 z = R.1 z := fun z z0 z1 z2 z3 z4 => by rw [w4.1 z z0 z3 z4, qz z z0 z1 z2]
            have kr0 : ∀ j, j ≠ 27 → j ≠ 34 → j ≠ 35 → j ≠ 36 → j ≠ 39 → j ≠ 41 → j ≠ 42 → R3.1 0 j = R.1 0 j := fun j j1 j2 j3 j4 j5 j6 j7 => by rw [w4.2 j j3 j4 j5 j6 j7, q0 j j1 j2]
            have kr27 : R3.1 0 27 = nI 0 := by rw [w4.2 27 (by omega) (by omega) (by omega) (by omega) (by omega), q27]
            have kr22 : ∀ j, j < 80 * u → R3.1 22 j = R.1 22 j := fun j hj => by rw [w4.1 22 (by omega) (by omega) (by omega), q22' j hj]
            generalize sI C1 9 2 0 = C2 at kcx kc9 ⊢
            unfold Rel rBase Inv iScal
            simp (disch := omega) only [kcx, kc9, kr, kr0, kr27]
            refine ⟨⟨⟨bd, bn, bt, bu, trivial, bw, bl⟩, ⟨sa, sb, sc, sd, se, sf, sg, sh⟩, ⟨ka, kb, kc, kd, ke⟩, ⟨ta, tb, tc, td, te, tf, tg⟩, ⟨ra, rb, rc, rd, re_, rf⟩, ⟨qa, qb, qc, qd, qe⟩⟩, hr, hl, hw, d, n, t, u, 0, w, ⟨⟨⟨id1, id2⟩, ⟨in1, in2⟩, ⟨it1, it2⟩, ⟨iu1, iu2⟩, ⟨rfl, by omega⟩, ⟨iw1, iw2⟩, ilv⟩, jS, jK, jT, jR, jC, jB, jM, jD, jL⟩, ⟨hrule.1, fun r hr => ?_⟩, hhome⟩
            obtain ⟨y, cd, y1, y2, y3, y4, y5, y6⟩ := hrule.2 r hr
            exact ⟨y, cd, y1, y2, y3, y4, y5, refEv_eq y6 (fun k hk => kr22 _ (by omega))⟩
          | inr q =>
            have hql : q.2.length ≤ 80 := hol
            obtain ⟨C1, g1, g2, g3, g4⟩ := hc1
            obtain ⟨vv, R3, w1, w2, w3, w4⟩ := hr1
            have w28 : R3.1 0 28 = nI u := by rw [w4.2 28 (by omega) (by omega) (by omega) (by omega) (by omega), q0 28 (by omega) (by omega)]; exact iu1
            have w34 : R3.1 0 34 = nI v := by rw [w4.2 34 (by omega) (by omega) (by omega) (by omega) (by omega), q34]
            have g55 : C1.1 5 5 = nI u := by rw [g2.1 5 (by omega) (by omega)]; exact hu
            unfold mI
            rw [g1, bi_, let_, if_pos (show (-1 : Int32) < 0 by decide +kernel), w1, bi_, w3, if_pos rfl]
            unfold f_X5_add
            have q20 : u < 20 := by omega
            simp (disch := omega) only [mI, let_, bi_, bv_, ckI, clI, nI_leI, nI_ltI, nI_eq, nI_add, add1, ad0, pk_mul, pk_sub, e0, e1, ge0, lt0, le0, gt0, lt1, l2_, l3, l4, l5, l6, l7, l8, l9, l10, l12, l13, l20, l26, l30, l40, l80, l99, l100, l240, l320, l999, l1000, l2000, a11, a01, z01, z00, bz0, bz1, s1, s2, l1, l2, upd_at, Nat.reduceEqDiff, reduceIte, w28, w34, g55, q20, g3]
            obtain ⟨C2, a1, a2, a3, a4⟩ := add44 (C := sI (sI (sI (sI C1 9 2 0) 46 u (nI k)) 47 u (nI e)) 48 u (nI q.2.length)) (u := u) (len := q.2.length) q20 hql f_X5_add_88
            rw [show f_X5_add_44 f_X5_add_88 mm_fu (nI q.2.length) (nI u) 0 (sI (sI (sI (sI C1 9 2 0) 46 u (nI k)) 47 u (nI e)) 48 u (nI q.2.length)) = _ from a1, show nI (u + 1) - 1 = nI u from nI_pred u]
            unfold f_X5_add_88 mI
            rw [let_]
            have k55 : C2.1 5 5 = nI u := by
              rw [a4 5 (by omega)]
              simp (disch := omega) only [mI, let_, bi_, bv_, ckI, clI, nI_leI, nI_ltI, nI_eq, nI_add, add1, ad0, pk_mul, pk_sub, e0, e1, ge0, lt0, le0, gt0, lt1, l2_, l3, l4, l5, l6, l7, l8, l9, l10, l12, l13, l20, l26, l30, l40, l80, l99, l100, l240, l320, l999, l1000, l2000, a11, a01, z01, z00, bz0, bz1, s1, s2, l1, l2, upd_at, Nat.reduceEqDiff, reduceIte]
              exact g55
            rw [k55, add1]
            refine ends_of ?_
            have kcx : ∀ z, z ≠ 5 → z ≠ 9 → z ≠ 60 → z ≠ 46 → z ≠ 47 → z ≠ 48 → z ≠ 49 → (sI C2 5 5 (nI (u + 1))).1 z = C.1 z := fun z z0 z1 z2 z3 z4 z5 z6 => by
              simp (disch := omega) only [mI, let_, bi_, bv_, ckI, clI, nI_leI, nI_ltI, nI_eq, nI_add, add1, ad0, pk_mul, pk_sub, e0, e1, ge0, lt0, le0, gt0, lt1, l2_, l3, l4, l5, l6, l7, l8, l9, l10, l12, l13, l20, l26, l30, l40, l80, l99, l100, l240, l320, l999, l1000, l2000, a11, a01, z01, z00, bz0, bz1, s1, s2, l1, l2, upd_at, Nat.reduceEqDiff, reduceIte, z0]
              rw [a4 z z6]
              simp (disch := omega) only [mI, let_, bi_, bv_, ckI, clI, nI_leI, nI_ltI, nI_eq, nI_add, add1, ad0, pk_mul, pk_sub, e0, e1, ge0, lt0, le0, gt0, lt1, l2_, l3, l4, l5, l6, l7, l8, l9, l10, l12, l13, l20, l26, l30, l40, l80, l99, l100, l240, l320, l999, l1000, l2000, a11, a01, z01, z00, bz0, bz1, s1, s2, l1, l2, upd_at, Nat.reduceEqDiff, reduceIte, z1, z3, z4, z5]
              exact g2.1 z z1 z2
            have kc9 : (sI C2 5 5 (nI (u + 1))).1 9 2 = nI 0 := by
              simp (disch := omega) only [mI, let_, bi_, bv_, ckI, clI, nI_leI, nI_ltI, nI_eq, nI_add, add1, ad0, pk_mul, pk_sub, e0, e1, ge0, lt0, le0, gt0, lt1, l2_, l3, l4, l5, l6, l7, l8, l9, l10, l12, l13, l20, l26, l30, l40, l80, l99, l100, l240, l320, l999, l1000, l2000, a11, a01, z01, z00, bz0, bz1, s1, s2, l1, l2, upd_at, Nat.reduceEqDiff, reduceIte]
              rw [a4 9 (by omega)]
              simp (disch := omega) only [mI, let_, bi_, bv_, ckI, clI, nI_leI, nI_ltI, nI_eq, nI_add, add1, ad0, pk_mul, pk_sub, e0, e1, ge0, lt0, le0, gt0, lt1, l2_, l3, l4, l5, l6, l7, l8, l9, l10, l12, l13, l20, l26, l30, l40, l80, l99, l100, l240, l320, l999, l1000, l2000, a11, a01, z01, z00, bz0, bz1, s1, s2, l1, l2, upd_at, Nat.reduceEqDiff, reduceIte]
              rfl
            have kc5 : (sI C2 5 5 (nI (u + 1))).1 5 5 = nI (u + 1) := by
              simp (disch := omega) only [mI, let_, bi_, bv_, ckI, clI, nI_leI, nI_ltI, nI_eq, nI_add, add1, ad0, pk_mul, pk_sub, e0, e1, ge0, lt0, le0, gt0, lt1, l2_, l3, l4, l5, l6, l7, l8, l9, l10, l12, l13, l20, l26, l30, l40, l80, l99, l100, l240, l320, l999, l1000, l2000, a11, a01, z01, z00, bz0, bz1, s1, s2, l1, l2, upd_at, Nat.reduceEqDiff, reduceIte]
            have kc46 : (sI C2 5 5 (nI (u + 1))).1 46 = upd (C.1 46) u (nI k) := by
              simp (disch := omega) only [mI, let_, bi_, bv_, ckI, clI, nI_leI, nI_ltI, nI_eq, nI_add, add1, ad0, pk_mul, pk_sub, e0, e1, ge0, lt0, le0, gt0, lt1, l2_, l3, l4, l5, l6, l7, l8, l9, l10, l12, l13, l20, l26, l30, l40, l80, l99, l100, l240, l320, l999, l1000, l2000, a11, a01, z01, z00, bz0, bz1, s1, s2, l1, l2, upd_at, Nat.reduceEqDiff, reduceIte]
              rw [a4 46 (by omega)]
              simp (disch := omega) only [mI, let_, bi_, bv_, ckI, clI, nI_leI, nI_ltI, nI_eq, nI_add, add1, ad0, pk_mul, pk_sub, e0, e1, ge0, lt0, le0, gt0, lt1, l2_, l3, l4, l5, l6, l7, l8, l9, l10, l12, l13, l20, l26, l30, l40, l80, l99, l100, l240, l320, l999, l1000, l2000, a11, a01, z01, z00, bz0, bz1, s1, s2, l1, l2, upd_at, Nat.reduceEqDiff, reduceIte]
              rw [g2.1 46 (by omega) (by omega)]
            have kc47 : (sI C2 5 5 (nI (u + 1))).1 47 = upd (C.1 47) u (nI e) := by
              simp (disch := omega) only [mI, let_, bi_, bv_, ckI, clI, nI_leI, nI_ltI, nI_eq, nI_add, add1, ad0, pk_mul, pk_sub, e0, e1, ge0, lt0, le0, gt0, lt1, l2_, l3, l4, l5, l6, l7, l8, l9, l10, l12, l13, l20, l26, l30, l40, l80, l99, l100, l240, l320, l999, l1000, l2000, a11, a01, z01, z00, bz0, bz1, s1, s2, l1, l2, upd_at, Nat.reduceEqDiff, reduceIte]
              rw [a4 47 (by omega)]
              simp (disch := omega) only [mI, let_, bi_, bv_, ckI, clI, nI_leI, nI_ltI, nI_eq, nI_add, add1, ad0, pk_mul, pk_sub, e0, e1, ge0, lt0, le0, gt0, lt1, l2_, l3, l4, l5, l6, l7, l8, l9, l10, l12, l13, l20, l26, l30, l40, l80, l99, l100, l240, l320, l999, l1000, l2000, a11, a01, z01, z00, bz0, bz1, s1, s2, l1, l2, upd_at, Nat.reduceEqDiff, reduceIte]
              rw [g2.1 47 (by omega) (by omega)]
            have kc48 : (sI C2 5 5 (nI (u + 1))).1 48 = upd (C.1 48) u (nI q.2.length) := by
              simp (disch := omega) only [mI, let_, bi_, bv_, ckI, clI, nI_leI, nI_ltI, nI_eq, nI_add, add1, ad0, pk_mul, pk_sub, e0, e1, ge0, lt0, le0, gt0, lt1, l2_, l3, l4, l5, l6, l7, l8, l9, l10, l12, l13, l20, l26, l30, l40, l80, l99, l100, l240, l320, l999, l1000, l2000, a11, a01, z01, z00, bz0, bz1, s1, s2, l1, l2, upd_at, Nat.reduceEqDiff, reduceIte]
              rw [a4 48 (by omega)]
              simp (disch := omega) only [mI, let_, bi_, bv_, ckI, clI, nI_leI, nI_ltI, nI_eq, nI_add, add1, ad0, pk_mul, pk_sub, e0, e1, ge0, lt0, le0, gt0, lt1, l2_, l3, l4, l5, l6, l7, l8, l9, l10, l12, l13, l20, l26, l30, l40, l80, l99, l100, l240, l320, l999, l1000, l2000, a11, a01, z01, z00, bz0, bz1, s1, s2, l1, l2, upd_at, Nat.reduceEqDiff, reduceIte]
              rw [g2.1 48 (by omega) (by omega)]
            have kc49 : ∀ i, i < q.2.length → (sI C2 5 5 (nI (u + 1))).1 49 (80 * u + i) = q.2.getD i 0 := fun i hi => by
              simp (disch := omega) only [mI, let_, bi_, bv_, ckI, clI, nI_leI, nI_ltI, nI_eq, nI_add, add1, ad0, pk_mul, pk_sub, e0, e1, ge0, lt0, le0, gt0, lt1, l2_, l3, l4, l5, l6, l7, l8, l9, l10, l12, l13, l20, l26, l30, l40, l80, l99, l100, l240, l320, l999, l1000, l2000, a11, a01, z01, z00, bz0, bz1, s1, s2, l1, l2, upd_at, Nat.reduceEqDiff, reduceIte]
              rw [a2 i hi]
              simp (disch := omega) only [mI, let_, bi_, bv_, ckI, clI, nI_leI, nI_ltI, nI_eq, nI_add, add1, ad0, pk_mul, pk_sub, e0, e1, ge0, lt0, le0, gt0, lt1, l2_, l3, l4, l5, l6, l7, l8, l9, l10, l12, l13, l20, l26, l30, l40, l80, l99, l100, l240, l320, l999, l1000, l2000, a11, a01, z01, z00, bz0, bz1, s1, s2, l1, l2, upd_at, Nat.reduceEqDiff, reduceIte]
              exact g4 i hi
            have kc49' : ∀ j, j < 80 * u → (sI C2 5 5 (nI (u + 1))).1 49 j = C.1 49 j := fun j hj => by
              simp (disch := omega) only [mI, let_, bi_, bv_, ckI, clI, nI_leI, nI_ltI, nI_eq, nI_add, add1, ad0, pk_mul, pk_sub, e0, e1, ge0, lt0, le0, gt0, lt1, l2_, l3, l4, l5, l6, l7, l8, l9, l10, l12, l13, l20, l26, l30, l40, l80, l99, l100, l240, l320, l999, l1000, l2000, a11, a01, z01, z00, bz0, bz1, s1, s2, l1, l2, upd_at, Nat.reduceEqDiff, reduceIte]
              rw [a3 j hj]
              simp (disch := omega) only [mI, let_, bi_, bv_, ckI, clI, nI_leI, nI_ltI, nI_eq, nI_add, add1, ad0, pk_mul, pk_sub, e0, e1, ge0, lt0, le0, gt0, lt1, l2_, l3, l4, l5, l6, l7, l8, l9, l10, l12, l13, l20, l26, l30, l40, l80, l99, l100, l240, l320, l999, l1000, l2000, a11, a01, z01, z00, bz0, bz1, s1, s2, l1, l2, upd_at, Nat.reduceEqDiff, reduceIte]
              rw [g2.1 49 (by omega) (by omega)]
            have kr : ∀ z, z ≠ 0 → z ≠ 20 → z ≠ 21 → z ≠ 22 → z ≠ 23 → z ≠ 24 → z ≠ 26 → z ≠ 27 → (sI (sI (sI (sI R3 23 u (nI v)) 20 u (nI k)) 21 u (nI e)) 0 28 (nI (u + 1))).1 z = R.1 z := fun z z0 z1 z2 z3 z4 z5 z6 z7 => by
              simp (disch := omega) only [mI, let_, bi_, bv_, ckI, clI, nI_leI, nI_ltI, nI_eq, nI_add, add1, ad0, pk_mul, pk_sub, e0, e1, ge0, lt0, le0, gt0, lt1, l2_, l3, l4, l5, l6, l7, l8, l9, l10, l12, l13, l20, l26, l30, l40, l80, l99, l100, l240, l320, l999, l1000, l2000, a11, a01, z01, z00, bz0, bz1, s1, s2, l1, l2, upd_at, Nat.reduceEqDiff, reduceIte, z0, z1, z2, z4]
              rw [w4.1 z z0 z6 z7, qz z z0 z3 z5]
            have kr0 : ∀ j, j ≠ 27 → j ≠ 28 → j ≠ 34 → j ≠ 35 → j ≠ 36 → j ≠ 39 → j ≠ 41 → j ≠ 42 → (sI (sI (sI (sI R3 23 u (nI v)) 20 u (nI k)) 21 u (nI e)) 0 28 (nI (u + 1))).1 0 j = R.1 0 j := fun j j1 j8 j2 j3 j4 j5 j6 j7 => by
              simp (disch := omega) only [mI, let_, bi_, bv_, ckI, clI, nI_leI, nI_ltI, nI_eq, nI_add, add1, ad0, pk_mul, pk_sub, e0, e1, ge0, lt0, le0, gt0, lt1, l2_, l3, l4, l5, l6, l7, l8, l9, l10, l12, l13, l20, l26, l30, l40, l80, l99, l100, l240, l320, l999, l1000, l2000, a11, a01, z01, z00, bz0, bz1, s1, s2, l1, l2, upd_at, Nat.reduceEqDiff, reduceIte, j8]
              rw [w4.2 j j3 j4 j5 j6 j7, q0 j j1 j2]
            have kr27 : (sI (sI (sI (sI R3 23 u (nI v)) 20 u (nI k)) 21 u (nI e)) 0 28 (nI (u + 1))).1 0 27 = nI 0 := by
              simp (disch := omega) only [mI, let_, bi_, bv_, ckI, clI, nI_leI, nI_ltI, nI_eq, nI_add, add1, ad0, pk_mul, pk_sub, e0, e1, ge0, lt0, le0, gt0, lt1, l2_, l3, l4, l5, l6, l7, l8, l9, l10, l12, l13, l20, l26, l30, l40, l80, l99, l100, l240, l320, l999, l1000, l2000, a11, a01, z01, z00, bz0, bz1, s1, s2, l1, l2, upd_at, Nat.reduceEqDiff, reduceIte]
              rw [w4.2 27 (by omega) (by omega) (by omega) (by omega) (by omega), q27]
            have kr28 : (sI (sI (sI (sI R3 23 u (nI v)) 20 u (nI k)) 21 u (nI e)) 0 28 (nI (u + 1))).1 0 28 = nI (u + 1) := by
              simp (disch := omega) only [mI, let_, bi_, bv_, ckI, clI, nI_leI, nI_ltI, nI_eq, nI_add, add1, ad0, pk_mul, pk_sub, e0, e1, ge0, lt0, le0, gt0, lt1, l2_, l3, l4, l5, l6, l7, l8, l9, l10, l12, l13, l20, l26, l30, l40, l80, l99, l100, l240, l320, l999, l1000, l2000, a11, a01, z01, z00, bz0, bz1, s1, s2, l1, l2, upd_at, Nat.reduceEqDiff, reduceIte]
            have kr20 : (sI (sI (sI (sI R3 23 u (nI v)) 20 u (nI k)) 21 u (nI e)) 0 28 (nI (u + 1))).1 20 = upd (R.1 20) u (nI k) := by
              simp (disch := omega) only [mI, let_, bi_, bv_, ckI, clI, nI_leI, nI_ltI, nI_eq, nI_add, add1, ad0, pk_mul, pk_sub, e0, e1, ge0, lt0, le0, gt0, lt1, l2_, l3, l4, l5, l6, l7, l8, l9, l10, l12, l13, l20, l26, l30, l40, l80, l99, l100, l240, l320, l999, l1000, l2000, a11, a01, z01, z00, bz0, bz1, s1, s2, l1, l2, upd_at, Nat.reduceEqDiff, reduceIte]
              rw [w4.1 20 (by omega) (by omega) (by omega), qz 20 (by omega) (by omega) (by omega)]
            have kr21 : (sI (sI (sI (sI R3 23 u (nI v)) 20 u (nI k)) 21 u (nI e)) 0 28 (nI (u + 1))).1 21 = upd (R.1 21) u (nI e) := by
              simp (disch := omega) only [mI, let_, bi_, bv_, ckI, clI, nI_leI, nI_ltI, nI_eq, nI_add, add1, ad0, pk_mul, pk_sub, e0, e1, ge0, lt0, le0, gt0, lt1, l2_, l3, l4, l5, l6, l7, l8, l9, l10, l12, l13, l20, l26, l30, l40, l80, l99, l100, l240, l320, l999, l1000, l2000, a11, a01, z01, z00, bz0, bz1, s1, s2, l1, l2, upd_at, Nat.reduceEqDiff, reduceIte]
              rw [w4.1 21 (by omega) (by omega) (by omega), qz 21 (by omega) (by omega) (by omega)]
            have kr23 : (sI (sI (sI (sI R3 23 u (nI v)) 20 u (nI k)) 21 u (nI e)) 0 28 (nI (u + 1))).1 23 = upd (R.1 23) u (nI v) := by
              simp (disch := omega) only [mI, let_, bi_, bv_, ckI, clI, nI_leI, nI_ltI, nI_eq, nI_add, add1, ad0, pk_mul, pk_sub, e0, e1, ge0, lt0, le0, gt0, lt1, l2_, l3, l4, l5, l6, l7, l8, l9, l10, l12, l13, l20, l26, l30, l40, l80, l99, l100, l240, l320, l999, l1000, l2000, a11, a01, z01, z00, bz0, bz1, s1, s2, l1, l2, upd_at, Nat.reduceEqDiff, reduceIte]
              rw [w4.1 23 (by omega) (by omega) (by omega), qz 23 (by omega) (by omega) (by omega)]
            have kr22 : ∀ i, i < v → (sI (sI (sI (sI R3 23 u (nI v)) 20 u (nI k)) 21 u (nI e)) 0 28 (nI (u + 1))).1 22 (80 * u + i) = R.1 19 i := fun i hi => by
              simp (disch := omega) only [mI, let_, bi_, bv_, ckI, clI, nI_leI, nI_ltI, nI_eq, nI_add, add1, ad0, pk_mul, pk_sub, e0, e1, ge0, lt0, le0, gt0, lt1, l2_, l3, l4, l5, l6, l7, l8, l9, l10, l12, l13, l20, l26, l30, l40, l80, l99, l100, l240, l320, l999, l1000, l2000, a11, a01, z01, z00, bz0, bz1, s1, s2, l1, l2, upd_at, Nat.reduceEqDiff, reduceIte]
              rw [w4.1 22 (by omega) (by omega) (by omega), q22 i hi]
            have kr22' : ∀ j, j < 80 * u → (sI (sI (sI (sI R3 23 u (nI v)) 20 u (nI k)) 21 u (nI e)) 0 28 (nI (u + 1))).1 22 j = R.1 22 j := fun j hj => by
              simp (disch := omega) only [mI, let_, bi_, bv_, ckI, clI, nI_leI, nI_ltI, nI_eq, nI_add, add1, ad0, pk_mul, pk_sub, e0, e1, ge0, lt0, le0, gt0, lt1, l2_, l3, l4, l5, l6, l7, l8, l9, l10, l12, l13, l20, l26, l30, l40, l80, l99, l100, l240, l320, l999, l1000, l2000, a11, a01, z01, z00, bz0, bz1, s1, s2, l1, l2, upd_at, Nat.reduceEqDiff, reduceIte]
              rw [w4.1 22 (by omega) (by omega) (by omega), q22' j hj]
            generalize sI C2 5 5 (nI (u + 1)) = C3 at kcx kc9 kc5 kc46 kc47 kc48 kc49 kc49' ⊢
            generalize sI (sI (sI (sI R3 23 u (nI v)) 20 u (nI k)) 21 u (nI e)) 0 28 (nI (u + 1)) = R4 at kr kr0 kr27 kr28 kr20 kr21 kr23 kr22 kr22' ⊢
            unfold Rel rBase Inv iScal
            simp (disch := omega) only [kcx, kc9, kc5, kc46, kc47, kc48, kr, kr0, kr27, kr28, kr20, kr21, kr23]
            refine ⟨⟨⟨bd, bn, bt, trivial, trivial, bw, bl⟩, ⟨sa, sb, sc, sd, se, sf, sg, sh⟩, ⟨ka, kb, kc, kd, ke⟩, ⟨ta, tb, tc, td, te, tf, tg⟩, ⟨by rw [ra], by rw [rb], rc, rd, re_, rf⟩, ⟨qa, qb, qc, qd, qe⟩⟩, hr, hl, hw, d, n, t, u + 1, 0, w, ⟨⟨⟨id1, id2⟩, ⟨in1, in2⟩, ⟨it1, it2⟩, ⟨rfl, by omega⟩, ⟨rfl, by omega⟩, ⟨iw1, iw2⟩, ilv⟩, jS, jK, jT, fun r hr => ?_, jC, jB, jM, jD, jL⟩, ⟨hrule.1, fun r hr => ?_⟩, hhome⟩
            · by_cases er : r = u
              · subst er
                simp only [upd_at, reduceIte]
                exact ⟨⟨k, rfl, by omega, by omega⟩, ⟨e, rfl, by omega, by omega⟩⟩
              · simp only [upd_at, er, reduceIte]
                exact jR r (by omega)
            · by_cases er : r = u
              · subst er
                simp only [upd_at, reduceIte]
                exact ⟨v, q.2, rfl, iv2, rfl, hql, kc49, refEv_eq (refEv_of ho) kr22⟩
              · simp only [upd_at, er, reduceIte]
                obtain ⟨y, cd, y1, y2, y3, y4, y5, y6⟩ := hrule.2 r (by omega)
                exact ⟨y, cd, y1, y2, y3, y4, fun i hi => by rw [kc49' _ (by omega)]; exact y5 i hi, refEv_eq y6 (fun k hk => kr22' _ (by omega))⟩
    · rw [if_neg b1, if_neg b1]
      exact ref4 h
  · rw [in_ix (n := 4) R (by omega) rfl ha, bi_, if_pos rfl]
    by_cases a0 : a < 0
    · rw [if_pos a0, bi_, if_pos rfl]
      exact ref2 h
    · rw [if_neg a0, if_pos (show (5 : Int32) ≤ a from ha.resolve_left a0), bi_, if_pos rfl]
      exact ref2 h

/-- the draw's first half, both sides -/
theorem sure_ok6 {C R : mm_M} {n a : Nat} {op we : Nat → Int32} (c1 : C.1 2 8 = nI n) (c2 : C.1 31 = op) (c3 : C.1 30 = we) (r1 : R.1 0 2 = nI n) (r2 : R.1 6 = op) (r3 : R.1 5 = we) (hn : n ≤ 40) (hop : ∀ j, j < n → rng (op j) 0 1) (hwe : ∀ j, j < n → rng (we j) 1 20) (ha : a ≤ 40) (ha1 : 1 ≤ a) : ∃ C' R' su r q, f_X2_reckon_6 (nI a) C = some C' ∧ f_X12_findSure (nI a) R = some R' ∧ (∀ j, j < 40 → C'.1 52 j = dIns n op j ∧ C'.1 54 j = nI (dWe n op we j)) ∧ C'.1 53 = su ∧ C'.1 6 4 = nI r ∧ C'.1 6 5 = nI q ∧ (∀ j, j < n → R'.1 18 j = su j) ∧ R'.1 0 23 = nI q ∧ (q ≠ 0 → R'.1 0 22 = nI r) ∧ kp6 C C' ∧ kpF R R' ∧ Drw (C'.1 52) su (dWe n op we) r q := by
  obtain ⟨C1, p1, p2, p3, p4, p5⟩ := reck6 (C := sI (sI C 6 4 (nI a)) 6 5 (nI 0)) (by simp (disch := omega) only [mI, let_, bi_, bv_, ckI, clI, nI_leI, nI_ltI, nI_eq, nI_add, add1, ad0, pk_mul, pk_sub, e0, e1, ge0, lt0, le0, gt0, lt1, l2_, l3, l4, l5, l6, l7, l8, l9, l10, l12, l13, l20, l26, l30, l40, l80, l99, l100, l240, l320, l999, l1000, l2000, a11, a01, z01, z00, bz0, bz1, s1, s2, l1, l2, upd_at, Nat.reduceEqDiff, reduceIte]; exact c1) hn (by simp (disch := omega) only [mI, let_, bi_, bv_, ckI, clI, nI_leI, nI_ltI, nI_eq, nI_add, add1, ad0, pk_mul, pk_sub, e0, e1, ge0, lt0, le0, gt0, lt1, l2_, l3, l4, l5, l6, l7, l8, l9, l10, l12, l13, l20, l26, l30, l40, l80, l99, l100, l240, l320, l999, l1000, l2000, a11, a01, z01, z00, bz0, bz1, s1, s2, l1, l2, upd_at, Nat.reduceEqDiff, reduceIte]; exact c2) (by simp (disch := omega) only [mI, let_, bi_, bv_, ckI, clI, nI_leI, nI_ltI, nI_eq, nI_add, add1, ad0, pk_mul, pk_sub, e0, e1, ge0, lt0, le0, gt0, lt1, l2_, l3, l4, l5, l6, l7, l8, l9, l10, l12, l13, l20, l26, l30, l40, l80, l99, l100, l240, l320, l999, l1000, l2000, a11, a01, z01, z00, bz0, bz1, s1, s2, l1, l2, upd_at, Nat.reduceEqDiff, reduceIte]; exact c3) hop hwe (by simp (disch := omega) only [mI, let_, bi_, bv_, ckI, clI, nI_leI, nI_ltI, nI_eq, nI_add, add1, ad0, pk_mul, pk_sub, e0, e1, ge0, lt0, le0, gt0, lt1, l2_, l3, l4, l5, l6, l7, l8, l9, l10, l12, l13, l20, l26, l30, l40, l80, l99, l100, l240, l320, l999, l1000, l2000, a11, a01, z01, z00, bz0, bz1, s1, s2, l1, l2, upd_at, Nat.reduceEqDiff, reduceIte]) f_X2_reckon_6_99
  have p4 : C1.1 6 4 = nI a := by rw [p4]; simp (disch := omega) only [mI, let_, bi_, bv_, ckI, clI, nI_leI, nI_ltI, nI_eq, nI_add, add1, ad0, pk_mul, pk_sub, e0, e1, ge0, lt0, le0, gt0, lt1, l2_, l3, l4, l5, l6, l7, l8, l9, l10, l12, l13, l20, l26, l30, l40, l80, l99, l100, l240, l320, l999, l1000, l2000, a11, a01, z01, z00, bz0, bz1, s1, s2, l1, l2, upd_at, Nat.reduceEqDiff, reduceIte]
  have pk : kp6 C C1 := by
    refine kp6_t ⟨fun z z1 z2 z3 z4 => ?_, fun j j1 j2 => ?_⟩ p5
    · simp (disch := omega) only [mI, let_, bi_, bv_, ckI, clI, nI_leI, nI_ltI, nI_eq, nI_add, add1, ad0, pk_mul, pk_sub, e0, e1, ge0, lt0, le0, gt0, lt1, l2_, l3, l4, l5, l6, l7, l8, l9, l10, l12, l13, l20, l26, l30, l40, l80, l99, l100, l240, l320, l999, l1000, l2000, a11, a01, z01, z00, bz0, bz1, s1, s2, l1, l2, upd_at, Nat.reduceEqDiff, reduceIte, z1]
    · simp (disch := omega) only [mI, let_, bi_, bv_, ckI, clI, nI_leI, nI_ltI, nI_eq, nI_add, add1, ad0, pk_mul, pk_sub, e0, e1, ge0, lt0, le0, gt0, lt1, l2_, l3, l4, l5, l6, l7, l8, l9, l10, l12, l13, l20, l26, l30, l40, l80, l99, l100, l240, l320, l999, l1000, l2000, a11, a01, z01, z00, bz0, bz1, s1, s2, l1, l2, upd_at, Nat.reduceEqDiff, reduceIte, j1, j2]
  have hd : Dst (C1.1 52) (C1.1 53) (dWe n op we) := by
    intro j hj
    obtain ⟨q1, q2, q3⟩ := p2 j hj
    rw [q1, q2]
    unfold dIns dWe
    by_cases e : j < n ∧ ¬ op j = 0
    · rw [if_pos e, if_pos e]
      obtain ⟨w1, w2, w3⟩ := rng_n (hwe j e.1) (by omega)
      exact ⟨Or.inr rfl, Or.inl rfl, w3, fun _ => rfl, fun _ => w2⟩
    · rw [if_neg e, if_neg e]
      exact ⟨Or.inl rfl, Or.inl rfl, by omega, fun _ => rfl, fun q => absurd rfl q⟩
  have hu : gsum (oth (C1.1 52) (C1.1 53)) 40 = cnt op n := cnt_oth hn (fun j hj => (p2 j hj).1) (fun j hj => (p2 j hj).2.1)
  have hu2 := oth_le (C1.1 52) (C1.1 53)
  have hq : gsum (dWe n op we) 40 = gsum (otw (C1.1 52) (C1.1 53) (dWe n op we)) 40 := by
    refine gsum_eq (fun j hj => ?_)
    obtain ⟨q1, q2, q3⟩ := p2 j hj
    unfold otw
    rw [q1, q2]
    by_cases e : j < n ∧ ¬ op j = 0
    · rw [if_pos ⟨by unfold dIns; rw [if_pos e]; exact n10, rfl⟩]
    · rw [if_neg (fun q => q.1 (if_neg e))]
      exact if_neg e
  have eC : f_X2_reckon_6 (nI a) C = f_X2_reckon_6_101 mm_fu (nI 0) C1 := p1
  have eR : f_X12_findSure (nI a) R = if nI a < nI (cnt op n) then f_X12_findSure_26 f_X12_findSure_96 mm_fu (nI a) 0 (nI 0) (sI (sI R 0 22 (nI a)) 0 23 0) else f_X12_findSure_26 f_X12_findSure_96 mm_fu (nI a) 1 (nI 0) (sI (sI R 0 22 (nI a)) 0 23 0) := by
    unfold f_X12_findSure f_X12_findSure_23
    rw [let_, let_, openMany_ok (c := n) (by simp (disch := omega) only [mI, let_, bi_, bv_, ckI, clI, nI_leI, nI_ltI, nI_eq, nI_add, add1, ad0, pk_mul, pk_sub, e0, e1, ge0, lt0, le0, gt0, lt1, l2_, l3, l4, l5, l6, l7, l8, l9, l10, l12, l13, l20, l26, l30, l40, l80, l99, l100, l240, l320, l999, l1000, l2000, a11, a01, z01, z00, bz0, bz1, s1, s2, l1, l2, upd_at, Nat.reduceEqDiff, reduceIte]; exact r1) hn, bi_]
    simp (disch := omega) only [mI, let_, bi_, bv_, ckI, clI, nI_leI, nI_ltI, nI_eq, nI_add, add1, ad0, pk_mul, pk_sub, e0, e1, ge0, lt0, le0, gt0, lt1, l2_, l3, l4, l5, l6, l7, l8, l9, l10, l12, l13, l20, l26, l30, l40, l80, l99, l100, l240, l320, l999, l1000, l2000, a11, a01, z01, z00, bz0, bz1, s1, s2, l1, l2, upd_at, Nat.reduceEqDiff, reduceIte, r2]
    rfl
  have kR : kpF R (sI (sI R 0 22 (nI a)) 0 23 0) := by
    refine ⟨fun z z1 z2 => ?_, fun j j1 j2 => ?_⟩
    · simp (disch := omega) only [mI, let_, bi_, bv_, ckI, clI, nI_leI, nI_ltI, nI_eq, nI_add, add1, ad0, pk_mul, pk_sub, e0, e1, ge0, lt0, le0, gt0, lt1, l2_, l3, l4, l5, l6, l7, l8, l9, l10, l12, l13, l20, l26, l30, l40, l80, l99, l100, l240, l320, l999, l1000, l2000, a11, a01, z01, z00, bz0, bz1, s1, s2, l1, l2, upd_at, Nat.reduceEqDiff, reduceIte, z1]
    · simp (disch := omega) only [mI, let_, bi_, bv_, ckI, clI, nI_leI, nI_ltI, nI_eq, nI_add, add1, ad0, pk_mul, pk_sub, e0, e1, ge0, lt0, le0, gt0, lt1, l2_, l3, l4, l5, l6, l7, l8, l9, l10, l12, l13, l20, l26, l30, l40, l80, l99, l100, l240, l320, l999, l1000, l2000, a11, a01, z01, z00, bz0, bz1, s1, s2, l1, l2, upd_at, Nat.reduceEqDiff, reduceIte, j1, j2]
  have hcn : cnt op n ≤ n := cnt_le op n
  rw [eC, eR]
  by_cases hA : a < cnt op n
  · rw [if_pos (nI_lt hA (by omega))]
    obtain ⟨R1, s1_, s2_, s3_, s4_⟩ := fs26 (R := sI (sI R 0 22 (nI a)) 0 23 0) (n := n) (op := op) (we := we) (by simp (disch := omega) only [mI, let_, bi_, bv_, ckI, clI, nI_leI, nI_ltI, nI_eq, nI_add, add1, ad0, pk_mul, pk_sub, e0, e1, ge0, lt0, le0, gt0, lt1, l2_, l3, l4, l5, l6, l7, l8, l9, l10, l12, l13, l20, l26, l30, l40, l80, l99, l100, l240, l320, l999, l1000, l2000, a11, a01, z01, z00, bz0, bz1, s1, s2, l1, l2, upd_at, Nat.reduceEqDiff, reduceIte]; exact r1) hn (by simp (disch := omega) only [mI, let_, bi_, bv_, ckI, clI, nI_leI, nI_ltI, nI_eq, nI_add, add1, ad0, pk_mul, pk_sub, e0, e1, ge0, lt0, le0, gt0, lt1, l2_, l3, l4, l5, l6, l7, l8, l9, l10, l12, l13, l20, l26, l30, l40, l80, l99, l100, l240, l320, l999, l1000, l2000, a11, a01, z01, z00, bz0, bz1, s1, s2, l1, l2, upd_at, Nat.reduceEqDiff, reduceIte]; exact r2) (by simp (disch := omega) only [mI, let_, bi_, bv_, ckI, clI, nI_leI, nI_ltI, nI_eq, nI_add, add1, ad0, pk_mul, pk_sub, e0, e1, ge0, lt0, le0, gt0, lt1, l2_, l3, l4, l5, l6, l7, l8, l9, l10, l12, l13, l20, l26, l30, l40, l80, l99, l100, l240, l320, l999, l1000, l2000, a11, a01, z01, z00, bz0, bz1, s1, s2, l1, l2, upd_at, Nat.reduceEqDiff, reduceIte]; exact r3) hop hwe (by simp (disch := omega) only [mI, let_, bi_, bv_, ckI, clI, nI_leI, nI_ltI, nI_eq, nI_add, add1, ad0, pk_mul, pk_sub, e0, e1, ge0, lt0, le0, gt0, lt1, l2_, l3, l4, l5, l6, l7, l8, l9, l10, l12, l13, l20, l26, l30, l40, l80, l99, l100, l240, l320, l999, l1000, l2000, a11, a01, z01, z00, bz0, bz1, s1, s2, l1, l2, upd_at, Nat.reduceEqDiff, reduceIte]; rfl) (nI a) 0 (Or.inl rfl) f_X12_findSure_96
    rw [s1_]
    have t2 : (sI R1 0 22 (nI a)).1 0 2 = nI n := by simp (disch := omega) only [mI, let_, bi_, bv_, ckI, clI, nI_leI, nI_ltI, nI_eq, nI_add, add1, ad0, pk_mul, pk_sub, e0, e1, ge0, lt0, le0, gt0, lt1, l2_, l3, l4, l5, l6, l7, l8, l9, l10, l12, l13, l20, l26, l30, l40, l80, l99, l100, l240, l320, l999, l1000, l2000, a11, a01, z01, z00, bz0, bz1, s1, s2, l1, l2, upd_at, Nat.reduceEqDiff, reduceIte]; rw [s4_.2 2 (by omega) (by omega)]; simp (disch := omega) only [mI, let_, bi_, bv_, ckI, clI, nI_leI, nI_ltI, nI_eq, nI_add, add1, ad0, pk_mul, pk_sub, e0, e1, ge0, lt0, le0, gt0, lt1, l2_, l3, l4, l5, l6, l7, l8, l9, l10, l12, l13, l20, l26, l30, l40, l80, l99, l100, l240, l320, l999, l1000, l2000, a11, a01, z01, z00, bz0, bz1, s1, s2, l1, l2, upd_at, Nat.reduceEqDiff, reduceIte]; exact r1
    have t6 : (sI R1 0 22 (nI a)).1 6 = op := by simp (disch := omega) only [mI, let_, bi_, bv_, ckI, clI, nI_leI, nI_ltI, nI_eq, nI_add, add1, ad0, pk_mul, pk_sub, e0, e1, ge0, lt0, le0, gt0, lt1, l2_, l3, l4, l5, l6, l7, l8, l9, l10, l12, l13, l20, l26, l30, l40, l80, l99, l100, l240, l320, l999, l1000, l2000, a11, a01, z01, z00, bz0, bz1, s1, s2, l1, l2, upd_at, Nat.reduceEqDiff, reduceIte]; rw [s4_.1 6 (by omega) (by omega)]; simp (disch := omega) only [mI, let_, bi_, bv_, ckI, clI, nI_leI, nI_ltI, nI_eq, nI_add, add1, ad0, pk_mul, pk_sub, e0, e1, ge0, lt0, le0, gt0, lt1, l2_, l3, l4, l5, l6, l7, l8, l9, l10, l12, l13, l20, l26, l30, l40, l80, l99, l100, l240, l320, l999, l1000, l2000, a11, a01, z01, z00, bz0, bz1, s1, s2, l1, l2, upd_at, Nat.reduceEqDiff, reduceIte]; exact r2
    have t5 : (sI R1 0 22 (nI a)).1 5 = we := by simp (disch := omega) only [mI, let_, bi_, bv_, ckI, clI, nI_leI, nI_ltI, nI_eq, nI_add, add1, ad0, pk_mul, pk_sub, e0, e1, ge0, lt0, le0, gt0, lt1, l2_, l3, l4, l5, l6, l7, l8, l9, l10, l12, l13, l20, l26, l30, l40, l80, l99, l100, l240, l320, l999, l1000, l2000, a11, a01, z01, z00, bz0, bz1, s1, s2, l1, l2, upd_at, Nat.reduceEqDiff, reduceIte]; rw [s4_.1 5 (by omega) (by omega)]; simp (disch := omega) only [mI, let_, bi_, bv_, ckI, clI, nI_leI, nI_ltI, nI_eq, nI_add, add1, ad0, pk_mul, pk_sub, e0, e1, ge0, lt0, le0, gt0, lt1, l2_, l3, l4, l5, l6, l7, l8, l9, l10, l12, l13, l20, l26, l30, l40, l80, l99, l100, l240, l320, l999, l1000, l2000, a11, a01, z01, z00, bz0, bz1, s1, s2, l1, l2, upd_at, Nat.reduceEqDiff, reduceIte]; exact r3
    have tq : (sI R1 0 22 (nI a)).1 0 23 = nI (gsum (dWe n op we) 40) := by
      simp (disch := omega) only [mI, let_, bi_, bv_, ckI, clI, nI_leI, nI_ltI, nI_eq, nI_add, add1, ad0, pk_mul, pk_sub, e0, e1, ge0, lt0, le0, gt0, lt1, l2_, l3, l4, l5, l6, l7, l8, l9, l10, l12, l13, l20, l26, l30, l40, l80, l99, l100, l240, l320, l999, l1000, l2000, a11, a01, z01, z00, bz0, bz1, s1, s2, l1, l2, upd_at, Nat.reduceEqDiff, reduceIte]
      rw [s3_, gsum_cut (f := dWe n op we) hn (fun i h1 h2 => if_neg (by omega))]
      simp only [reduceIte]
    have tr : (sI R1 0 22 (nI a)).1 0 22 = nI a := by simp (disch := omega) only [mI, let_, bi_, bv_, ckI, clI, nI_leI, nI_ltI, nI_eq, nI_add, add1, ad0, pk_mul, pk_sub, e0, e1, ge0, lt0, le0, gt0, lt1, l2_, l3, l4, l5, l6, l7, l8, l9, l10, l12, l13, l20, l26, l30, l40, l80, l99, l100, l240, l320, l999, l1000, l2000, a11, a01, z01, z00, bz0, bz1, s1, s2, l1, l2, upd_at, Nat.reduceEqDiff, reduceIte]
    have hdr : drR n (C1.1 52) (C1.1 53) (dWe n op we) op we ((sI R1 0 22 (nI a)).1 18) := by
      refine ⟨fun j hj => ⟨?_, ?_, ?_, hwe j hj⟩, fun j h1 h2 => ?_⟩
      · rw [(p2 j (by omega)).1]
        unfold dIns
        by_cases e : op j = 0
        · rw [if_neg (fun q => q.2 e)]
          exact iff_of_true e rfl
        · rw [if_pos ⟨hj, e⟩]
          exact iff_of_false e n10
      · rw [(p2 j (by omega)).1]
        unfold dIns dWe
        by_cases e : op j = 0
        · rw [if_neg (fun q => q.2 e)]
          exact fun q => absurd rfl q
        · rw [if_pos ⟨hj, e⟩, if_pos ⟨hj, e⟩]
          exact fun _ => rfl
      · simp (disch := omega) only [mI, let_, bi_, bv_, ckI, clI, nI_leI, nI_ltI, nI_eq, nI_add, add1, ad0, pk_mul, pk_sub, e0, e1, ge0, lt0, le0, gt0, lt1, l2_, l3, l4, l5, l6, l7, l8, l9, l10, l12, l13, l20, l26, l30, l40, l80, l99, l100, l240, l320, l999, l1000, l2000, a11, a01, z01, z00, bz0, bz1, s1, s2, l1, l2, upd_at, Nat.reduceEqDiff, reduceIte]
        rw [s2_ j hj, if_pos rfl, (p2 j (by omega)).2.1]
      · rw [(p2 j h2).1]
        exact if_neg (by omega)
    obtain ⟨C', R', su', sr', r', q', g1, g2, g3, g4, g5, g6, g7, g8, g9, g10, g11, g12, g13, g14⟩ := rounds_A6 (ins := C1.1 52) (we := C1.1 54) (g := dWe n op we) (fun i hi => (p2 i hi).2.2) hn (op := op) (wr := we) 40 0 mm_fu mm_fu C1 (sI R1 0 22 (nI a)) (C1.1 53) ((sI R1 0 22 (nI a)).1 18) a (gsum (dWe n op we) 40) (by omega) (by omega) (by omega) (fuGt (by omega)) (fuGt (by omega)) hd hdr rfl rfl rfl p4 p3 t2 t6 t5 rfl tr tq ha hq ha1 (by omega)
    refine ⟨C', R', su', r', q', g1, ?_, fun j hj => ⟨by rw [g3]; exact (p2 j hj).1, by rw [g4]; exact (p2 j hj).2.2⟩, g5, g6, g7, fun j hj => by rw [g8]; exact (g14.1 j hj).2.2.1, g10, fun _ => g9, kp6_t pk g11, kpF_t kR (kpF_t s4_ (kpF_t ⟨fun z z1 z2 => by simp (disch := omega) only [mI, let_, bi_, bv_, ckI, clI, nI_leI, nI_ltI, nI_eq, nI_add, add1, ad0, pk_mul, pk_sub, e0, e1, ge0, lt0, le0, gt0, lt1, l2_, l3, l4, l5, l6, l7, l8, l9, l10, l12, l13, l20, l26, l30, l40, l80, l99, l100, l240, l320, l999, l1000, l2000, a11, a01, z01, z00, bz0, bz1, s1, s2, l1, l2, upd_at, Nat.reduceEqDiff, reduceIte, z1], fun j j1 j2 => by simp (disch := omega) only [mI, let_, bi_, bv_, ckI, clI, nI_leI, nI_ltI, nI_eq, nI_add, add1, ad0, pk_mul, pk_sub, e0, e1, ge0, lt0, le0, gt0, lt1, l2_, l3, l4, l5, l6, l7, l8, l9, l10, l12, l13, l20, l26, l30, l40, l80, l99, l100, l240, l320, l999, l1000, l2000, a11, a01, z01, z00, bz0, bz1, s1, s2, l1, l2, upd_at, Nat.reduceEqDiff, reduceIte, j1]⟩ g12)), by rw [g3]; exact g13⟩
    unfold f_X12_findSure_96 f_X12_findSure_106 f_X12_findSure_118
    rw [if_pos rfl, let_, if_pos rfl]
    exact g2
  · rw [if_neg (nI_nlt (by omega) (by omega))]
    obtain ⟨R1, s1_, s2_, s3_, s4_⟩ := fs26 (R := sI (sI R 0 22 (nI a)) 0 23 0) (n := n) (op := op) (we := we) (by simp (disch := omega) only [mI, let_, bi_, bv_, ckI, clI, nI_leI, nI_ltI, nI_eq, nI_add, add1, ad0, pk_mul, pk_sub, e0, e1, ge0, lt0, le0, gt0, lt1, l2_, l3, l4, l5, l6, l7, l8, l9, l10, l12, l13, l20, l26, l30, l40, l80, l99, l100, l240, l320, l999, l1000, l2000, a11, a01, z01, z00, bz0, bz1, s1, s2, l1, l2, upd_at, Nat.reduceEqDiff, reduceIte]; exact r1) hn (by simp (disch := omega) only [mI, let_, bi_, bv_, ckI, clI, nI_leI, nI_ltI, nI_eq, nI_add, add1, ad0, pk_mul, pk_sub, e0, e1, ge0, lt0, le0, gt0, lt1, l2_, l3, l4, l5, l6, l7, l8, l9, l10, l12, l13, l20, l26, l30, l40, l80, l99, l100, l240, l320, l999, l1000, l2000, a11, a01, z01, z00, bz0, bz1, s1, s2, l1, l2, upd_at, Nat.reduceEqDiff, reduceIte]; exact r2) (by simp (disch := omega) only [mI, let_, bi_, bv_, ckI, clI, nI_leI, nI_ltI, nI_eq, nI_add, add1, ad0, pk_mul, pk_sub, e0, e1, ge0, lt0, le0, gt0, lt1, l2_, l3, l4, l5, l6, l7, l8, l9, l10, l12, l13, l20, l26, l30, l40, l80, l99, l100, l240, l320, l999, l1000, l2000, a11, a01, z01, z00, bz0, bz1, s1, s2, l1, l2, upd_at, Nat.reduceEqDiff, reduceIte]; exact r3) hop hwe (by simp (disch := omega) only [mI, let_, bi_, bv_, ckI, clI, nI_leI, nI_ltI, nI_eq, nI_add, add1, ad0, pk_mul, pk_sub, e0, e1, ge0, lt0, le0, gt0, lt1, l2_, l3, l4, l5, l6, l7, l8, l9, l10, l12, l13, l20, l26, l30, l40, l80, l99, l100, l240, l320, l999, l1000, l2000, a11, a01, z01, z00, bz0, bz1, s1, s2, l1, l2, upd_at, Nat.reduceEqDiff, reduceIte]; rfl) (nI a) 1 (Or.inr rfl) f_X12_findSure_96
    rw [s1_]
    obtain ⟨C', su', r', g1, g2, g3, g4, g5, g6, g7, g8, g9⟩ := rounds_B6 (ins := C1.1 52) (we := C1.1 54) (g := dWe n op we) (fun i hi => (p2 i hi).2.2) 40 0 mm_fu C1 (C1.1 53) a (gsum (dWe n op we) 40) (by omega) (by omega) (by omega) (fuGt (by omega)) hd rfl rfl rfl p4 p3 ha hq (by omega)
    refine ⟨C', sI R1 0 22 0, su', r', 0, g1, ?_, fun j hj => ⟨by rw [g2]; exact (p2 j hj).1, by rw [g3]; exact (p2 j hj).2.2⟩, g4, g5, g6, fun j hj => ?_, ?_, fun q => absurd rfl q, kp6_t pk g7, kpF_t kR (kpF_t s4_ ⟨fun z z1 z2 => by simp (disch := omega) only [mI, let_, bi_, bv_, ckI, clI, nI_leI, nI_ltI, nI_eq, nI_add, add1, ad0, pk_mul, pk_sub, e0, e1, ge0, lt0, le0, gt0, lt1, l2_, l3, l4, l5, l6, l7, l8, l9, l10, l12, l13, l20, l26, l30, l40, l80, l99, l100, l240, l320, l999, l1000, l2000, a11, a01, z01, z00, bz0, bz1, s1, s2, l1, l2, upd_at, Nat.reduceEqDiff, reduceIte, z1], fun j j1 j2 => by simp (disch := omega) only [mI, let_, bi_, bv_, ckI, clI, nI_leI, nI_ltI, nI_eq, nI_add, add1, ad0, pk_mul, pk_sub, e0, e1, ge0, lt0, le0, gt0, lt1, l2_, l3, l4, l5, l6, l7, l8, l9, l10, l12, l13, l20, l26, l30, l40, l80, l99, l100, l240, l320, l999, l1000, l2000, a11, a01, z01, z00, bz0, bz1, s1, s2, l1, l2, upd_at, Nat.reduceEqDiff, reduceIte, j1]⟩), by rw [g2]; exact g8⟩
    · unfold f_X12_findSure_96 f_X12_findSure_106 f_X12_findSure_118
      rw [if_neg n10, let_, if_neg n10]
      rfl
    · simp (disch := omega) only [mI, let_, bi_, bv_, ckI, clI, nI_leI, nI_ltI, nI_eq, nI_add, add1, ad0, pk_mul, pk_sub, e0, e1, ge0, lt0, le0, gt0, lt1, l2_, l3, l4, l5, l6, l7, l8, l9, l10, l12, l13, l20, l26, l30, l40, l80, l99, l100, l240, l320, l999, l1000, l2000, a11, a01, z01, z00, bz0, bz1, s1, s2, l1, l2, upd_at, Nat.reduceEqDiff, reduceIte]
      rw [s2_ j hj, if_neg n10]
      obtain ⟨d1, d2, d3, d4, d5⟩ := g8.1 j (by omega)
      rw [(p2 j (by omega)).1] at d1 d4
      rcases d2 with z | z
      · have := gsum_0 g9 j (by omega)
        unfold oth at this
        by_cases e : C1.1 52 j = 0
        · rw [z, ← (p2 j (by omega)).1]
          exact e
        · rw [if_pos ⟨e, z⟩] at this
          omega
      · rw [z]
        rcases d1 with y | y
        · exact absurd (d4 y) (by rw [z]; exact n10)
        · exact y
    · simp (disch := omega) only [mI, let_, bi_, bv_, ckI, clI, nI_leI, nI_ltI, nI_eq, nI_add, add1, ad0, pk_mul, pk_sub, e0, e1, ge0, lt0, le0, gt0, lt1, l2_, l3, l4, l5, l6, l7, l8, l9, l10, l12, l13, l20, l26, l30, l40, l80, l99, l100, l240, l320, l999, l1000, l2000, a11, a01, z01, z00, bz0, bz1, s1, s2, l1, l2, upd_at, Nat.reduceEqDiff, reduceIte]
      rw [s3_, gsum_z (fun i _ => if_neg n10)]

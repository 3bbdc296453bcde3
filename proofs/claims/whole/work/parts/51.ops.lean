/-! the draw: who is open, with which weight -/
def dIns (n : Nat) (op : Nat → Int32) (j : Nat) : Int32 := if j < n ∧ ¬ op j = 0 then 1 else 0
def dWe (n : Nat) (op we : Nat → Int32) (j : Nat) : Nat := if j < n ∧ ¬ op j = 0 then nN (we j) else 0
/-- what the class's draw may change -/
def kp6 (C C' : mm_M) : Prop := (∀ a, a ≠ 6 → a ≠ 52 → a ≠ 53 → a ≠ 54 → C'.1 a = C.1 a) ∧ (∀ j, j ≠ 4 → j ≠ 5 → C'.1 6 j = C.1 6 j)
theorem kp6_t {A B C : mm_M} (h : kp6 A B) (g : kp6 B C) : kp6 A C := ⟨fun a h1 h2 h3 h4 => (g.1 a h1 h2 h3 h4).trans (h.1 a h1 h2 h3 h4), fun j h1 h2 => (g.2 j h1 h2).trans (h.2 j h1 h2)⟩
theorem reck6 {C : mm_M} {n : Nat} {op we : Nat → Int32} (h1 : C.1 2 8 = nI n) (hn : n ≤ 40) (ho : C.1 31 = op) (hw : C.1 30 = we) (hop : ∀ j, j < n → rng (op j) 0 1) (hwe : ∀ j, j < n → rng (we j) 1 20) (h6 : C.1 6 5 = nI 0) (K : mm_M → Option mm_M) : ∃ C', f_X2_reckon_6_12 K mm_fu (nI 0) C = K C' ∧ (∀ j, j < 40 → C'.1 52 j = dIns n op j ∧ C'.1 53 j = 0 ∧ C'.1 54 j = nI (dWe n op we j)) ∧ C'.1 6 5 = nI (gsum (dWe n op we) 40) ∧ C'.1 6 4 = C.1 6 4 ∧ kp6 C C' := by
  refine lpMf (fun n s M => f_X2_reckon_6_12 K n (nI s) M) (fun s M => (∀ j, j < s → M.1 52 j = dIns n op j ∧ M.1 53 j = 0 ∧ M.1 54 j = nI (dWe n op we j)) ∧ M.1 6 5 = nI (gsum (dWe n op we) s) ∧ M.1 6 4 = C.1 6 4 ∧ kp6 C M) (fun b => ∃ C', b = K C' ∧ (∀ j, j < 40 → C'.1 52 j = dIns n op j ∧ C'.1 53 j = 0 ∧ C'.1 54 j = nI (dWe n op we j)) ∧ C'.1 6 5 = nI (gsum (dWe n op we) 40) ∧ C'.1 6 4 = C.1 6 4 ∧ kp6 C C') (c := 40) C (by omega) ⟨fun j hj => absurd hj (by omega), h6, rfl, fun _ _ _ _ _ => rfl, fun _ _ _ => rfl⟩ ?_ ?_
  · intro s m M hs hI ih
    obtain ⟨i1, i2, i3, i4, i5⟩ := hI
    have q40 : ¬ 40 ≤ s := by omega
    have k28 : M.1 2 8 = nI n := by rw [i4 2 (by omega) (by omega) (by omega) (by omega)]; exact h1
    have k31 : M.1 31 = op := by rw [i4 31 (by omega) (by omega) (by omega) (by omega)]; exact ho
    have k30 : M.1 30 = we := by rw [i4 30 (by omega) (by omega) (by omega) (by omega)]; exact hw
    show ∃ C', f_X2_reckon_6_12 K (m + 1) (nI s) M = K C' ∧ _
    unfold f_X2_reckon_6_12 f_X2_reckon_6_44 f_X2_reckon_6_45 f_X2_reckon_6_77
    by_cases e : s < n ∧ ¬ op s = 0
    · have e1 : op s = 1 := (rn01 (hop s e.1)).resolve_left e.2
      obtain ⟨w1, w2, w3⟩ := rng_n (hwe s e.1) (by omega)
      have d1 : dIns n op s = 1 := if_pos e
      have d2 : dWe n op we s = nN (we s) := if_pos e
      rw [has_y k28 hn e.1]
      simp (disch := omega) only [mI, let_, bi_, bv_, ckI, clI, nI_leI, nI_ltI, nI_eq, nI_add, add1, ad0, pk_mul, pk_sub, e0, e1, ge0, lt0, le0, gt0, lt1, l2_, l3, l4, l5, l6, l7, l8, l9, l10, l12, l13, l20, l26, l30, l40, l80, l99, l100, l240, l320, l999, l1000, l2000, a11, a01, z01, z00, bz0, bz1, s1, s2, l1, l2, upd_at, Nat.reduceEqDiff, reduceIte, q40, k31, k30, e1, i2]
      refine ih _ ⟨fun j hj => ?_, ?_, ?_, ?_, ?_⟩
      · simp (disch := omega) only [mI, let_, bi_, bv_, ckI, clI, nI_leI, nI_ltI, nI_eq, nI_add, add1, ad0, pk_mul, pk_sub, e0, e1, ge0, lt0, le0, gt0, lt1, l2_, l3, l4, l5, l6, l7, l8, l9, l10, l12, l13, l20, l26, l30, l40, l80, l99, l100, l240, l320, l999, l1000, l2000, a11, a01, z01, z00, bz0, bz1, s1, s2, l1, l2, upd_at, Nat.reduceEqDiff, reduceIte]
        by_cases ej : j = s
        · subst ej
          simp (disch := omega) only [mI, let_, bi_, bv_, ckI, clI, nI_leI, nI_ltI, nI_eq, nI_add, add1, ad0, pk_mul, pk_sub, e0, e1, ge0, lt0, le0, gt0, lt1, l2_, l3, l4, l5, l6, l7, l8, l9, l10, l12, l13, l20, l26, l30, l40, l80, l99, l100, l240, l320, l999, l1000, l2000, a11, a01, z01, z00, bz0, bz1, s1, s2, l1, l2, upd_at, Nat.reduceEqDiff, reduceIte, d1, d2]
          exact ⟨trivial, trivial, w1⟩
        · simp (disch := omega) only [mI, let_, bi_, bv_, ckI, clI, nI_leI, nI_ltI, nI_eq, nI_add, add1, ad0, pk_mul, pk_sub, e0, e1, ge0, lt0, le0, gt0, lt1, l2_, l3, l4, l5, l6, l7, l8, l9, l10, l12, l13, l20, l26, l30, l40, l80, l99, l100, l240, l320, l999, l1000, l2000, a11, a01, z01, z00, bz0, bz1, s1, s2, l1, l2, upd_at, Nat.reduceEqDiff, reduceIte, ej]
          exact i1 j (by omega)
      · simp (disch := omega) only [mI, let_, bi_, bv_, ckI, clI, nI_leI, nI_ltI, nI_eq, nI_add, add1, ad0, pk_mul, pk_sub, e0, e1, ge0, lt0, le0, gt0, lt1, l2_, l3, l4, l5, l6, l7, l8, l9, l10, l12, l13, l20, l26, l30, l40, l80, l99, l100, l240, l320, l999, l1000, l2000, a11, a01, z01, z00, bz0, bz1, s1, s2, l1, l2, upd_at, Nat.reduceEqDiff, reduceIte]
        rw [gsum_s, d2, ← nI_add, ← w1]
      · simp (disch := omega) only [mI, let_, bi_, bv_, ckI, clI, nI_leI, nI_ltI, nI_eq, nI_add, add1, ad0, pk_mul, pk_sub, e0, e1, ge0, lt0, le0, gt0, lt1, l2_, l3, l4, l5, l6, l7, l8, l9, l10, l12, l13, l20, l26, l30, l40, l80, l99, l100, l240, l320, l999, l1000, l2000, a11, a01, z01, z00, bz0, bz1, s1, s2, l1, l2, upd_at, Nat.reduceEqDiff, reduceIte]
        exact i3
      · intro a a1 a2 a3 a4
        simp (disch := omega) only [mI, let_, bi_, bv_, ckI, clI, nI_leI, nI_ltI, nI_eq, nI_add, add1, ad0, pk_mul, pk_sub, e0, e1, ge0, lt0, le0, gt0, lt1, l2_, l3, l4, l5, l6, l7, l8, l9, l10, l12, l13, l20, l26, l30, l40, l80, l99, l100, l240, l320, l999, l1000, l2000, a11, a01, z01, z00, bz0, bz1, s1, s2, l1, l2, upd_at, Nat.reduceEqDiff, reduceIte, a1, a2, a3, a4]
        exact i4 a a1 a2 a3 a4
      · intro j j1 j2
        simp (disch := omega) only [mI, let_, bi_, bv_, ckI, clI, nI_leI, nI_ltI, nI_eq, nI_add, add1, ad0, pk_mul, pk_sub, e0, e1, ge0, lt0, le0, gt0, lt1, l2_, l3, l4, l5, l6, l7, l8, l9, l10, l12, l13, l20, l26, l30, l40, l80, l99, l100, l240, l320, l999, l1000, l2000, a11, a01, z01, z00, bz0, bz1, s1, s2, l1, l2, upd_at, Nat.reduceEqDiff, reduceIte, j1, j2]
        exact i5 j j1 j2
    · have d1 : dIns n op s = 0 := if_neg e
      have d2 : dWe n op we s = 0 := if_neg e
      have done : ∃ C', f_X2_reckon_6_12 K m (nI (s + 1)) (sI (sI (sI (sI M 52 s 0) 53 s 0) 54 s 0) 6 5 (nI (gsum (dWe n op we) s))) = K C' ∧ (∀ j, j < 40 → C'.1 52 j = dIns n op j ∧ C'.1 53 j = 0 ∧ C'.1 54 j = nI (dWe n op we j)) ∧ C'.1 6 5 = nI (gsum (dWe n op we) 40) ∧ C'.1 6 4 = C.1 6 4 ∧ kp6 C C' := by
        refine ih _ ⟨fun j hj => ?_, ?_, ?_, ?_, ?_⟩
        · simp (disch := omega) only [mI, let_, bi_, bv_, ckI, clI, nI_leI, nI_ltI, nI_eq, nI_add, add1, ad0, pk_mul, pk_sub, e0, e1, ge0, lt0, le0, gt0, lt1, l2_, l3, l4, l5, l6, l7, l8, l9, l10, l12, l13, l20, l26, l30, l40, l80, l99, l100, l240, l320, l999, l1000, l2000, a11, a01, z01, z00, bz0, bz1, s1, s2, l1, l2, upd_at, Nat.reduceEqDiff, reduceIte]
          by_cases ej : j = s
          · subst ej
            simp (disch := omega) only [mI, let_, bi_, bv_, ckI, clI, nI_leI, nI_ltI, nI_eq, nI_add, add1, ad0, pk_mul, pk_sub, e0, e1, ge0, lt0, le0, gt0, lt1, l2_, l3, l4, l5, l6, l7, l8, l9, l10, l12, l13, l20, l26, l30, l40, l80, l99, l100, l240, l320, l999, l1000, l2000, a11, a01, z01, z00, bz0, bz1, s1, s2, l1, l2, upd_at, Nat.reduceEqDiff, reduceIte, d1, d2]
            exact ⟨trivial, trivial, rfl⟩
          · simp (disch := omega) only [mI, let_, bi_, bv_, ckI, clI, nI_leI, nI_ltI, nI_eq, nI_add, add1, ad0, pk_mul, pk_sub, e0, e1, ge0, lt0, le0, gt0, lt1, l2_, l3, l4, l5, l6, l7, l8, l9, l10, l12, l13, l20, l26, l30, l40, l80, l99, l100, l240, l320, l999, l1000, l2000, a11, a01, z01, z00, bz0, bz1, s1, s2, l1, l2, upd_at, Nat.reduceEqDiff, reduceIte, ej]
            exact i1 j (by omega)
        · simp (disch := omega) only [mI, let_, bi_, bv_, ckI, clI, nI_leI, nI_ltI, nI_eq, nI_add, add1, ad0, pk_mul, pk_sub, e0, e1, ge0, lt0, le0, gt0, lt1, l2_, l3, l4, l5, l6, l7, l8, l9, l10, l12, l13, l20, l26, l30, l40, l80, l99, l100, l240, l320, l999, l1000, l2000, a11, a01, z01, z00, bz0, bz1, s1, s2, l1, l2, upd_at, Nat.reduceEqDiff, reduceIte]
          rw [gsum_s, d2]
          rfl
        · simp (disch := omega) only [mI, let_, bi_, bv_, ckI, clI, nI_leI, nI_ltI, nI_eq, nI_add, add1, ad0, pk_mul, pk_sub, e0, e1, ge0, lt0, le0, gt0, lt1, l2_, l3, l4, l5, l6, l7, l8, l9, l10, l12, l13, l20, l26, l30, l40, l80, l99, l100, l240, l320, l999, l1000, l2000, a11, a01, z01, z00, bz0, bz1, s1, s2, l1, l2, upd_at, Nat.reduceEqDiff, reduceIte]
          exact i3
        · intro a a1 a2 a3 a4
          simp (disch := omega) only [mI, let_, bi_, bv_, ckI, clI, nI_leI, nI_ltI, nI_eq, nI_add, add1, ad0, pk_mul, pk_sub, e0, e1, ge0, lt0, le0, gt0, lt1, l2_, l3, l4, l5, l6, l7, l8, l9, l10, l12, l13, l20, l26, l30, l40, l80, l99, l100, l240, l320, l999, l1000, l2000, a11, a01, z01, z00, bz0, bz1, s1, s2, l1, l2, upd_at, Nat.reduceEqDiff, reduceIte, a1, a2, a3, a4]
          exact i4 a a1 a2 a3 a4
        · intro j j1 j2
          simp (disch := omega) only [mI, let_, bi_, bv_, ckI, clI, nI_leI, nI_ltI, nI_eq, nI_add, add1, ad0, pk_mul, pk_sub, e0, e1, ge0, lt0, le0, gt0, lt1, l2_, l3, l4, l5, l6, l7, l8, l9, l10, l12, l13, l20, l26, l30, l40, l80, l99, l100, l240, l320, l999, l1000, l2000, a11, a01, z01, z00, bz0, bz1, s1, s2, l1, l2, upd_at, Nat.reduceEqDiff, reduceIte, j1, j2]
          exact i5 j j1 j2
      by_cases en : s < n
      · have eo : op s = 0 := Decidable.not_not.mp (fun q => e ⟨en, q⟩)
        rw [has_y k28 hn en]
        simp (disch := omega) only [mI, let_, bi_, bv_, ckI, clI, nI_leI, nI_ltI, nI_eq, nI_add, add1, ad0, pk_mul, pk_sub, e0, e1, ge0, lt0, le0, gt0, lt1, l2_, l3, l4, l5, l6, l7, l8, l9, l10, l12, l13, l20, l26, l30, l40, l80, l99, l100, l240, l320, l999, l1000, l2000, a11, a01, z01, z00, bz0, bz1, s1, s2, l1, l2, upd_at, Nat.reduceEqDiff, reduceIte, q40, k31, k30, eo, i2]
        exact done
      · rw [has_n k28 (Or.inr (nI_le (by omega) (by omega)))]
        simp (disch := omega) only [mI, let_, bi_, bv_, ckI, clI, nI_leI, nI_ltI, nI_eq, nI_add, add1, ad0, pk_mul, pk_sub, e0, e1, ge0, lt0, le0, gt0, lt1, l2_, l3, l4, l5, l6, l7, l8, l9, l10, l12, l13, l20, l26, l30, l40, l80, l99, l100, l240, l320, l999, l1000, l2000, a11, a01, z01, z00, bz0, bz1, s1, s2, l1, l2, upd_at, Nat.reduceEqDiff, reduceIte, q40, k31, k30, i2]
        exact done
  · intro m M hI
    show ∃ C', f_X2_reckon_6_12 K (m + 1) (nI 40) M = K C' ∧ _
    unfold f_X2_reckon_6_12
    rw [if_pos (show (40 : Int32) ≤ nI 40 by decide +kernel)]
    exact ⟨M, rfl, hI⟩

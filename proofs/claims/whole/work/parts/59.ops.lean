/-! made by gen7.py: the draw's rows for the foreseen draw (object 7) -/
theorem other7 {C : mm_M} {s : Nat} (hs : s < 40) : f_X2_isOther_7 (nI s) C = some (if ¬ C.1 56 s = 0 ∧ C.1 57 s = 0 then 1 else 0, C) := by
  unfold f_X2_isOther_7 mI
  simp only [ckI hs (show 40 ≤ 100000 by omega), clI (show s < 2 ^ 31 by omega)]
  by_cases e1 : C.1 56 s = 0
  · rw [if_pos e1, if_neg (fun q => q.1 e1)]
  · rw [if_neg e1]
    by_cases e2 : C.1 57 s = 0
    · rw [if_pos e2, if_pos ⟨e1, e2⟩]
    · rw [if_neg e2, if_neg (fun q => e2 q.2)]
def pm7 (C : mm_M) (su : Nat → Int32) (r q : Int32) : mm_M := sA (sA C 57 su) 7 (upd (upd (C.1 7) 4 r) 5 q)
theorem pm7_1 (C : mm_M) (su : Nat → Int32) (r q : Int32) (a : Nat) : (pm7 C su r q).1 a = if a = 7 then upd (upd (C.1 7) 4 r) 5 q else if a = 57 then su else C.1 a := by
  unfold pm7
  rw [sA1, sA1]
theorem pm7_id (C : mm_M) : pm7 C (C.1 57) (C.1 7 4) (C.1 7 5) = C := by
  unfold pm7
  rw [sA_id, upd_id, upd_id, sA_id]
theorem pm7_s (C : mm_M) (i : Nat) (x y z : Int32) (su : Nat → Int32) (r q : Int32) : pm7 (sI (sI (sI C 57 i x) 7 4 y) 7 5 z) su r q = pm7 C su r q := by
  refine Prod.ext ?_ rfl
  funext a
  rw [pm7_1, pm7_1]
  by_cases e6 : a = 7
  · rw [if_pos e6, if_pos e6]
    simp only [s1, Nat.reduceEqDiff, reduceIte]
    funext j
    unfold upd
    by_cases j5 : j = 5 <;> by_cases j4 : j = 4 <;> simp only [j5, j4, reduceIte, Nat.reduceEqDiff]
  · rw [if_neg e6, if_neg e6]
    by_cases e5 : a = 57
    · rw [if_pos e5, if_pos e5]
    · rw [if_neg e5, if_neg e5]
      simp only [s1, e6, e5, reduceIte]
theorem pass_c7 {ins we su : Nat → Int32} {g : Nat → Nat} {N A : Nat} (r q : Int32) (hg : ∀ i, i < 40 → we i = nI (g i) ∧ g i ≤ 20) (hN : N ≤ 40) (hA : A ≤ 800) : ∀ (m s n : Nat) (C : mm_M), s + m = 40 → m < n → C.1 56 = ins → C.1 58 = we → C.1 57 = psu ins su g N A s → C.1 7 4 = r - nI (gsum (chg ins su g N A) s) → C.1 7 5 = q - nI (gsum (chw ins su g N A) s) → f_X2_makeSure_7_15 n (nI N) (nI A) (flg (gsum (chg ins su g N A) s)) (nI s) C = some (flg (gsum (chg ins su g N A) 40), pm7 C (psu ins su g N A 40) (r - nI (gsum (chg ins su g N A) 40)) (q - nI (gsum (chw ins su g N A) 40))) := by
  intro m
  induction m with
  | zero =>
    intro s n C hs hn h1 h2 h3 h4 h5
    obtain ⟨n, rfl⟩ : ∃ q, n = q + 1 := ⟨n - 1, by omega⟩
    obtain rfl : s = 40 := by omega
    unfold f_X2_makeSure_7_15
    rw [if_pos (show (40 : Int32) ≤ nI 40 by decide +kernel), ← h3, ← h4, ← h5, pm7_id]
    rcases flg01 (gsum (chg ins su g N A) 40) with e | e <;> rw [e] <;> rfl
  | succ m ih =>
    intro s n C hs hn h1 h2 h3 h4 h5
    obtain ⟨n, rfl⟩ : ∃ q, n = q + 1 := ⟨n - 1, by omega⟩
    obtain ⟨g1, g2⟩ := hg s (by omega)
    have hNg : N * g s ≤ 40 * 20 := Nat.mul_le_mul hN g2
    have hc := gsum_s (chg ins su g N A) s
    have hw := gsum_s (chw ins su g N A) s
    unfold f_X2_makeSure_7_15 mI f_X2_makeSure_7_80
    rw [if_neg (show ¬ (40 : Int32) ≤ nI s from nI_ge (b := 40) (by omega) (by decide)), other7 (by omega), bi_]
    simp only [ckI (show s < 40 by omega) (show 40 ≤ 100000 by omega), clI (show s < 2 ^ 31 by omega), h1, h2, h3, psu_at, g1, pk_mul, let_, add1, a11]
    by_cases e : ¬ ins s = 0 ∧ su s = 0 ∧ A ≤ N * g s
    · rw [if_pos (show ¬ ins s = 0 ∧ su s = 0 from ⟨e.1, e.2.1⟩), if_neg n10, if_neg (show ¬ nI (N * g s) < nI A from nI_nlt e.2.2 (by omega))]
      unfold chg at hc
      unfold chw at hw
      rw [if_pos e] at hc hw
      have hc2 : gsum (chg ins su g N A) (s + 1) = gsum (chg ins su g N A) s + 1 := hc
      have hw2 : gsum (chw ins su g N A) (s + 1) = gsum (chw ins su g N A) s + g s := hw
      have q1 : (sI C 57 s 1).1 7 4 - 1 = r - nI (gsum (chg ins su g N A) (s + 1)) := by
        simp only [s1, Nat.reduceEqDiff, reduceIte]
        rw [h4, hc2, sub2, add1]
      rw [q1]
      have q2 : (sI (sI C 57 s 1) 7 4 (r - nI (gsum (chg ins su g N A) (s + 1)))).1 7 5 - (sI (sI C 57 s 1) 7 4 (r - nI (gsum (chg ins su g N A) (s + 1)))).1 58 s = q - nI (gsum (chw ins su g N A) (s + 1)) := by
        simp only [s1, Nat.reduceEqDiff, reduceIte, upd_at]
        rw [h5, h2, g1, hw2, sub2, nI_add]
      rw [q2]
      have q3 : (1 : Int32) = flg (gsum (chg ins su g N A) (s + 1)) := by
        unfold flg
        rw [if_neg (by omega)]
      have k := ih (s + 1) n (sI (sI (sI C 57 s 1) 7 4 (r - nI (gsum (chg ins su g N A) (s + 1)))) 7 5 (q - nI (gsum (chw ins su g N A) (s + 1)))) (by omega) (by omega) (by simp only [s1, Nat.reduceEqDiff, reduceIte]; exact h1) (by simp only [s1, Nat.reduceEqDiff, reduceIte]; exact h2) (by simp only [s1, Nat.reduceEqDiff, reduceIte, h3]; exact (psu_y ins su g e).symm) (by simp only [s1, Nat.reduceEqDiff, reduceIte, upd_at]) (by simp only [s1, Nat.reduceEqDiff, reduceIte, upd_at])
      rw [pm7_s, ← q3] at k
      exact k
    · unfold chg at hc
      unfold chw at hw
      rw [if_neg e] at hc hw
      have hc2 : gsum (chg ins su g N A) (s + 1) = gsum (chg ins su g N A) s := hc
      have hw2 : gsum (chw ins su g N A) (s + 1) = gsum (chw ins su g N A) s := hw
      have k := ih (s + 1) n C (by omega) (by omega) h1 h2 (by rw [psu_n ins su g e]; exact h3) (by rw [hc2]; exact h4) (by rw [hw2]; exact h5)
      rw [hc2] at k
      by_cases e2 : ¬ ins s = 0 ∧ su s = 0
      · rw [if_pos e2, if_neg n10, if_pos (show nI (N * g s) < nI A from nI_lt (by
          rcases Nat.lt_or_ge (N * g s) A with z | z
          · exact z
          · exact absurd ⟨e2.1, e2.2, z⟩ e) (by omega))]
        exact k
      · rw [if_neg e2, if_pos rfl]
        exact k
def kp7 (C C' : mm_M) : Prop := (∀ a, a ≠ 7 → a ≠ 56 → a ≠ 57 → a ≠ 58 → C'.1 a = C.1 a) ∧ (∀ j, j ≠ 4 → j ≠ 5 → C'.1 7 j = C.1 7 j)
theorem kp7_t {A B C : mm_M} (h : kp7 A B) (g : kp7 B C) : kp7 A C := ⟨fun a h1 h2 h3 h4 => (g.1 a h1 h2 h3 h4).trans (h.1 a h1 h2 h3 h4), fun j h1 h2 => (g.2 j h1 h2).trans (h.2 j h1 h2)⟩
theorem reck7 {C : mm_M} {n : Nat} {op we : Nat → Int32} (h1 : C.1 2 8 = nI n) (hn : n ≤ 40) (ho : C.1 31 = op) (hw : C.1 30 = we) (hop : ∀ j, j < n → rng (op j) 0 1) (hwe : ∀ j, j < n → rng (we j) 1 20) (h6 : C.1 7 5 = nI 0) (K : mm_M → Option mm_M) : ∃ C', f_X2_reckon_7_12 K mm_fu (nI 0) C = K C' ∧ (∀ j, j < 40 → C'.1 56 j = dIns n op j ∧ C'.1 57 j = 0 ∧ C'.1 58 j = nI (dWe n op we j)) ∧ C'.1 7 5 = nI (gsum (dWe n op we) 40) ∧ C'.1 7 4 = C.1 7 4 ∧ kp7 C C' := by
  refine lpMf (fun n s M => f_X2_reckon_7_12 K n (nI s) M) (fun s M => (∀ j, j < s → M.1 56 j = dIns n op j ∧ M.1 57 j = 0 ∧ M.1 58 j = nI (dWe n op we j)) ∧ M.1 7 5 = nI (gsum (dWe n op we) s) ∧ M.1 7 4 = C.1 7 4 ∧ kp7 C M) (fun b => ∃ C', b = K C' ∧ (∀ j, j < 40 → C'.1 56 j = dIns n op j ∧ C'.1 57 j = 0 ∧ C'.1 58 j = nI (dWe n op we j)) ∧ C'.1 7 5 = nI (gsum (dWe n op we) 40) ∧ C'.1 7 4 = C.1 7 4 ∧ kp7 C C') (c := 40) C (by omega) ⟨fun j hj => absurd hj (by omega), h6, rfl, fun _ _ _ _ _ => rfl, fun _ _ _ => rfl⟩ ?_ ?_
  · intro s m M hs hI ih
    obtain ⟨i1, i2, i3, i4, i5⟩ := hI
    have q40 : ¬ 40 ≤ s := by omega
    have k28 : M.1 2 8 = nI n := by rw [i4 2 (by omega) (by omega) (by omega) (by omega)]; exact h1
    have k31 : M.1 31 = op := by rw [i4 31 (by omega) (by omega) (by omega) (by omega)]; exact ho
    have k30 : M.1 30 = we := by rw [i4 30 (by omega) (by omega) (by omega) (by omega)]; exact hw
    show ∃ C', f_X2_reckon_7_12 K (m + 1) (nI s) M = K C' ∧ _
    unfold f_X2_reckon_7_12 f_X2_reckon_7_44 f_X2_reckon_7_45 f_X2_reckon_7_77
    by_cases e : s < n ∧ ¬ op s = 0
    · have e1 : op s = 1 := (rn01 (hop s e.1)).resolve_left e.2
      obtain ⟨w1, w2, w3⟩ := rng_n (hwe s e.1) (by omega)
      have d1 : dIns n op s = 1 := if_pos e
      have d2 : dWe n op we s = nN (we s) := if_pos e
      rw [has_y k28 hn e.1]
      simp (disch := omega) only [mI, let_, bi_, bv_, ckI, clI, nI_leI, nI_ltI, nI_eq, nI_add, add1, ad0, pk_mul, pk_sub, e0, e1, ge0, lt0, le0, gt0, lt1, l2_, l3, l4, l5, l6, l7, l8, l9, l10, l12, l13, l20, l26, l30, l40, l80, l99, l100, l240, l320, l999, l1000, l2000, a11, a01, z01, z00, bz0, bz1, s1, s2, l1, l2, upd_at, Nat.reduceEqDiff, reduceIte, q40, k31, k30, e1, i2]
      refine ih _ ⟨fun j hj => ?_, ?_, ?_, ?_, ?_⟩
      · simp (disch := omega) only [mI, let_, bi_, bv_, ckI, clI, nI_leI, nI_ltI, nI_eq, nI_add, add1, ad0, pk_mul, pk_sub, e0, e1, ge0, lt0, le0, gt0, lt1, l2_, l3, l4, l5, l6, l7, l8, l9, l10, l12, l13, l20, l26, l30, l40, l80, l99, l100, l240, l320, l999, l1000, l2000, a11, a01, z01, z00, bz0, bz1, s1, s2, l1, l2, upd_at, Nat.reduceEqDiff, reduceIte]
        by_cases ej : j = s
        · subst ej
          simp (disch := omega) only [mI, let_, bi_, bv_, ckI, clI, nI_leI, nI_ltI, nI_eq, nI_add, add1, ad0, pk_mul, pk_sub, e0, e1, ge0, lt0, le0, gt0, lt1, l2_, l3, l4, l5, l6, l7, l8, l9, l10, l12, l13, l20, l26, l30, l40, l80, l99, l100, l240, l320, l999, l1000, l2000, a11, a01, z01, z00, bz0, bz1, s1, s2, l1, l2, upd_at, Nat.reduceEqDiff, reduceIte, d1, d2]
          exact ⟨trivial, trivial, w1⟩
        · simp (disch := omega) only [mI, let_, bi_, bv_, ckI, clI, nI_leI, nI_ltI, nI_eq, nI_add, add1, ad0, pk_mul, pk_sub, e0, e1, ge0, lt0, le0, gt0, lt1, l2_, l3, l4, l5, l6, l7, l8, l9, l10, l12, l13, l20, l26, l30, l40, l80, l99, l100, l240, l320, l999, l1000, l2000, a11, a01, z01, z00, bz0, bz1, s1, s2, l1, l2, upd_at, Nat.reduceEqDiff, reduceIte, ej]
          exact i1 j (by omega)
      · simp (disch := omega) only [mI, let_, bi_, bv_, ckI, clI, nI_leI, nI_ltI, nI_eq, nI_add, add1, ad0, pk_mul, pk_sub, e0, e1, ge0, lt0, le0, gt0, lt1, l2_, l3, l4, l5, l6, l7, l8, l9, l10, l12, l13, l20, l26, l30, l40, l80, l99, l100, l240, l320, l999, l1000, l2000, a11, a01, z01, z00, bz0, bz1, s1, s2, l1, l2, upd_at, Nat.reduceEqDiff, reduceIte]
        rw [gsum_s, d2, ← nI_add, ← w1]
      · simp (disch := omega) only [mI, let_, bi_, bv_, ckI, clI, nI_leI, nI_ltI, nI_eq, nI_add, add1, ad0, pk_mul, pk_sub, e0, e1, ge0, lt0, le0, gt0, lt1, l2_, l3, l4, l5, l6, l7, l8, l9, l10, l12, l13, l20, l26, l30, l40, l80, l99, l100, l240, l320, l999, l1000, l2000, a11, a01, z01, z00, bz0, bz1, s1, s2, l1, l2, upd_at, Nat.reduceEqDiff, reduceIte]
        exact i3
      · intro a a1 a2 a3 a4
        simp (disch := omega) only [mI, let_, bi_, bv_, ckI, clI, nI_leI, nI_ltI, nI_eq, nI_add, add1, ad0, pk_mul, pk_sub, e0, e1, ge0, lt0, le0, gt0, lt1, l2_, l3, l4, l5, l6, l7, l8, l9, l10, l12, l13, l20, l26, l30, l40, l80, l99, l100, l240, l320, l999, l1000, l2000, a11, a01, z01, z00, bz0, bz1, s1, s2, l1, l2, upd_at, Nat.reduceEqDiff, reduceIte, a1, a2, a3, a4]
        exact i4 a a1 a2 a3 a4
      · intro j j1 j2
        simp (disch := omega) only [mI, let_, bi_, bv_, ckI, clI, nI_leI, nI_ltI, nI_eq, nI_add, add1, ad0, pk_mul, pk_sub, e0, e1, ge0, lt0, le0, gt0, lt1, l2_, l3, l4, l5, l6, l7, l8, l9, l10, l12, l13, l20, l26, l30, l40, l80, l99, l100, l240, l320, l999, l1000, l2000, a11, a01, z01, z00, bz0, bz1, s1, s2, l1, l2, upd_at, Nat.reduceEqDiff, reduceIte, j1, j2]
        exact i5 j j1 j2
    · have d1 : dIns n op s = 0 := if_neg e
      have d2 : dWe n op we s = 0 := if_neg e
      have done : ∃ C', f_X2_reckon_7_12 K m (nI (s + 1)) (sI (sI (sI (sI M 56 s 0) 57 s 0) 58 s 0) 7 5 (nI (gsum (dWe n op we) s))) = K C' ∧ (∀ j, j < 40 → C'.1 56 j = dIns n op j ∧ C'.1 57 j = 0 ∧ C'.1 58 j = nI (dWe n op we j)) ∧ C'.1 7 5 = nI (gsum (dWe n op we) 40) ∧ C'.1 7 4 = C.1 7 4 ∧ kp7 C C' := by
        refine ih _ ⟨fun j hj => ?_, ?_, ?_, ?_, ?_⟩
        · simp (disch := omega) only [mI, let_, bi_, bv_, ckI, clI, nI_leI, nI_ltI, nI_eq, nI_add, add1, ad0, pk_mul, pk_sub, e0, e1, ge0, lt0, le0, gt0, lt1, l2_, l3, l4, l5, l6, l7, l8, l9, l10, l12, l13, l20, l26, l30, l40, l80, l99, l100, l240, l320, l999, l1000, l2000, a11, a01, z01, z00, bz0, bz1, s1, s2, l1, l2, upd_at, Nat.reduceEqDiff, reduceIte]
          by_cases ej : j = s
          · subst ej
            simp (disch := omega) only [mI, let_, bi_, bv_, ckI, clI, nI_leI, nI_ltI, nI_eq, nI_add, add1, ad0, pk_mul, pk_sub, e0, e1, ge0, lt0, le0, gt0, lt1, l2_, l3, l4, l5, l6, l7, l8, l9, l10, l12, l13, l20, l26, l30, l40, l80, l99, l100, l240, l320, l999, l1000, l2000, a11, a01, z01, z00, bz0, bz1, s1, s2, l1, l2, upd_at, Nat.reduceEqDiff, reduceIte, d1, d2]
            exact ⟨trivial, trivial, rfl⟩
          · simp (disch := omega) only [mI, let_, bi_, bv_, ckI, clI, nI_leI, nI_ltI, nI_eq, nI_add, add1, ad0, pk_mul, pk_sub, e0, e1, ge0, lt0, le0, gt0, lt1, l2_, l3, l4, l5, l6, l7, l8, l9, l10, l12, l13, l20, l26, l30, l40, l80, l99, l100, l240, l320, l999, l1000, l2000, a11, a01, z01, z00, bz0, bz1, s1, s2, l1, l2, upd_at, Nat.reduceEqDiff, reduceIte, ej]
            exact i1 j (by omega)
        · simp (disch := omega) only [mI, let_, bi_, bv_, ckI, clI, nI_leI, nI_ltI, nI_eq, nI_add, add1, ad0, pk_mul, pk_sub, e0, e1, ge0, lt0, le0, gt0, lt1, l2_, l3, l4, l5, l6, l7, l8, l9, l10, l12, l13, l20, l26, l30, l40, l80, l99, l100, l240, l320, l999, l1000, l2000, a11, a01, z01, z00, bz0, bz1, s1, s2, l1, l2, upd_at, Nat.reduceEqDiff, reduceIte]
          rw [gsum_s, d2]
          rfl
        · simp (disch := omega) only [mI, let_, bi_, bv_, ckI, clI, nI_leI, nI_ltI, nI_eq, nI_add, add1, ad0, pk_mul, pk_sub, e0, e1, ge0, lt0, le0, gt0, lt1, l2_, l3, l4, l5, l6, l7, l8, l9, l10, l12, l13, l20, l26, l30, l40, l80, l99, l100, l240, l320, l999, l1000, l2000, a11, a01, z01, z00, bz0, bz1, s1, s2, l1, l2, upd_at, Nat.reduceEqDiff, reduceIte]
          exact i3
        · intro a a1 a2 a3 a4
          simp (disch := omega) only [mI, let_, bi_, bv_, ckI, clI, nI_leI, nI_ltI, nI_eq, nI_add, add1, ad0, pk_mul, pk_sub, e0, e1, ge0, lt0, le0, gt0, lt1, l2_, l3, l4, l5, l6, l7, l8, l9, l10, l12, l13, l20, l26, l30, l40, l80, l99, l100, l240, l320, l999, l1000, l2000, a11, a01, z01, z00, bz0, bz1, s1, s2, l1, l2, upd_at, Nat.reduceEqDiff, reduceIte, a1, a2, a3, a4]
          exact i4 a a1 a2 a3 a4
        · intro j j1 j2
          simp (disch := omega) only [mI, let_, bi_, bv_, ckI, clI, nI_leI, nI_ltI, nI_eq, nI_add, add1, ad0, pk_mul, pk_sub, e0, e1, ge0, lt0, le0, gt0, lt1, l2_, l3, l4, l5, l6, l7, l8, l9, l10, l12, l13, l20, l26, l30, l40, l80, l99, l100, l240, l320, l999, l1000, l2000, a11, a01, z01, z00, bz0, bz1, s1, s2, l1, l2, upd_at, Nat.reduceEqDiff, reduceIte, j1, j2]
          exact i5 j j1 j2
      by_cases en : s < n
      · have eo : op s = 0 := Decidable.not_not.mp (fun q => e ⟨en, q⟩)
        rw [has_y k28 hn en]
        simp (disch := omega) only [mI, let_, bi_, bv_, ckI, clI, nI_leI, nI_ltI, nI_eq, nI_add, add1, ad0, pk_mul, pk_sub, e0, e1, ge0, lt0, le0, gt0, lt1, l2_, l3, l4, l5, l6, l7, l8, l9, l10, l12, l13, l20, l26, l30, l40, l80, l99, l100, l240, l320, l999, l1000, l2000, a11, a01, z01, z00, bz0, bz1, s1, s2, l1, l2, upd_at, Nat.reduceEqDiff, reduceIte, q40, k31, k30, eo, i2]
        exact done
      · rw [has_n k28 (Or.inr (nI_le (by omega) (by omega)))]
        simp (disch := omega) only [mI, let_, bi_, bv_, ckI, clI, nI_leI, nI_ltI, nI_eq, nI_add, add1, ad0, pk_mul, pk_sub, e0, e1, ge0, lt0, le0, gt0, lt1, l2_, l3, l4, l5, l6, l7, l8, l9, l10, l12, l13, l20, l26, l30, l40, l80, l99, l100, l240, l320, l999, l1000, l2000, a11, a01, z01, z00, bz0, bz1, s1, s2, l1, l2, upd_at, Nat.reduceEqDiff, reduceIte, q40, k31, k30, i2]
        exact done
  · intro m M hI
    show ∃ C', f_X2_reckon_7_12 K (m + 1) (nI 40) M = K C' ∧ _
    unfold f_X2_reckon_7_12
    rw [if_pos (show (40 : Int32) ≤ nI 40 by decide +kernel)]
    exact ⟨M, rfl, hI⟩
theorem kp7_pm (C : mm_M) (su : Nat → Int32) (r q : Int32) : kp7 C (pm7 C su r q) := by
  refine ⟨fun a h1 h2 h3 h4 => ?_, fun j h1 h2 => ?_⟩
  · rw [pm7_1, if_neg h1, if_neg h3]
  · rw [pm7_1, if_pos rfl, upd_at, if_neg h2, upd_at, if_neg h1]
theorem make7 {ins we su : Nat → Int32} {g : Nat → Nat} {C : mm_M} {r q : Nat} (hd : Dst ins su g) (hw : ∀ i, i < 40 → we i = nI (g i)) (h1 : C.1 56 = ins) (h2 : C.1 58 = we) (h3 : C.1 57 = su) (h4 : C.1 7 4 = nI r) (h5 : C.1 7 5 = nI q) (hr : r ≤ 40) (hq : q = gsum (otw ins su g) 40) (hc : gsum (chg ins su g r q) 40 ≤ r) : f_X2_makeSure_7 C = some (flg (gsum (chg ins su g r q) 40), pm7 C (psu ins su g r q 40) (nI (r - gsum (chg ins su g r q) 40)) (nI (q - gsum (chw ins su g r q) 40))) := by
  have w := pass_W ins su g r q
  have hq2 : q ≤ 800 := by rw [hq]; exact otw_le (fun i hi => (hd i hi).2.2.1)
  have k := pass_c7 (ins := ins) (we := we) (su := su) (g := g) (N := r) (A := q) (nI r) (nI q) (fun i hi => ⟨hw i hi, (hd i hi).2.2.1⟩) hr hq2 40 0 mm_fu C (by omega) (fuGt (by omega)) h1 h2 (by rw [psu_0]; exact h3) (by rw [h4]; exact (Int32.sub_zero _).symm) (by rw [h5]; exact (Int32.sub_zero _).symm)
  rw [pk_sub hc, pk_sub (by omega)] at k
  unfold f_X2_makeSure_7 mI
  rw [let_, let_, h4, h5]
  exact k
theorem rounds_B7 {ins we : Nat → Int32} {g : Nat → Nat} (hw : ∀ i, i < 40 → we i = nI (g i)) : ∀ (k x n : Nat) (C : mm_M) (su : Nat → Int32) (r q : Nat), gsum (oth ins su) 40 ≤ k → k ≤ 40 - x → x ≤ 40 → 40 < n + x → Dst ins su g → C.1 56 = ins → C.1 58 = we → C.1 57 = su → C.1 7 4 = nI r → C.1 7 5 = nI q → r ≤ 40 → q = gsum (otw ins su g) 40 → gsum (oth ins su) 40 ≤ r → ∃ C' su' r', f_X2_reckon_7_101 n (nI x) C = some C' ∧ C'.1 56 = ins ∧ C'.1 58 = we ∧ C'.1 57 = su' ∧ C'.1 7 4 = nI r' ∧ C'.1 7 5 = nI 0 ∧ kp7 C C' ∧ Drw ins su' g r' 0 ∧ gsum (oth ins su') 40 = 0 := by
  intro k
  induction k with
  | zero =>
    intro x n C su r q hk hx hx2 hn hd h1 h2 h3 h4 h5 hr hq hu
    obtain ⟨n, rfl⟩ : ∃ q, n = q + 1 := ⟨n - 1, by omega⟩
    have h0 : gsum (oth ins su) 40 = 0 := by omega
    have hD := dst_end0 hd hr hq h0
    have q0 : q = 0 := by
      rw [hq]
      exact gsum_z (fun i hi => if_neg (fun z => by
        have := gsum_0 h0 i hi
        unfold oth at this
        rw [if_pos z] at this
        omega))
    subst q0
    have hc := pass_U ins su g r 0
    unfold f_X2_reckon_7_101
    by_cases e : 40 ≤ x
    · rw [if_pos (show (40 : Int32) ≤ nI x from nI_le (a := 40) e (by omega))]
      exact ⟨C, su, r, rfl, h1, h2, h3, h4, h5, ⟨fun _ _ _ _ _ => rfl, fun _ _ _ => rfl⟩, hD, h0⟩
    · rw [if_neg (show ¬ (40 : Int32) ≤ nI x from nI_ge (b := 40) (by omega) (by decide)), make7 hd hw h1 h2 h3 h4 h5 hr hq (by omega), bi_, flg_0 (by omega), if_pos rfl]
      have hpd := dst_pass hd r 0
      have hw0 := pass_W ins su g r 0
      have hpo : gsum (oth ins (psu ins su g r 0 40)) 40 = 0 := by omega
      exact ⟨_, psu ins su g r 0 40, r, rfl, by rw [pm7_1]; exact h1, by rw [pm7_1]; exact h2, by rw [pm7_1]; rfl, by rw [pm7_1, if_pos rfl, upd_at, if_neg (by omega), upd_at, if_pos rfl, show r - gsum (chg ins su g r 0) 40 = r by omega], by rw [pm7_1, if_pos rfl, upd_at, if_pos rfl]; exact congrArg nI (by omega), kp7_pm _ _ _ _, dst_end0 hpd hr (by omega) hpo, hpo⟩
  | succ k ih =>
    intro x n C su r q hk hx hx2 hn hd h1 h2 h3 h4 h5 hr hq hu
    by_cases hU : gsum (oth ins su) 40 ≤ k
    · exact ih x n C su r q hU (by omega) hx2 hn hd h1 h2 h3 h4 h5 hr hq hu
    · obtain ⟨n, rfl⟩ : ∃ q, n = q + 1 := ⟨n - 1, by omega⟩
      have hc := pass_U ins su g r q
      have hw0 := pass_W ins su g r q
      have hne := pass_B hq (by omega) hu
      unfold f_X2_reckon_7_101
      rw [if_neg (show ¬ (40 : Int32) ≤ nI x from nI_ge (b := 40) (by omega) (by decide)), make7 hd hw h1 h2 h3 h4 h5 hr hq (by omega), bi_, flg_1 hne, if_neg n10, add1]
      obtain ⟨C', su', r', g1, g2, g3, g4, g5, g6, g7, g8, g9⟩ := ih (x + 1) n (pm7 C (psu ins su g r q 40) (nI (r - gsum (chg ins su g r q) 40)) (nI (q - gsum (chw ins su g r q) 40))) (psu ins su g r q 40) (r - gsum (chg ins su g r q) 40) (q - gsum (chw ins su g r q) 40) (by omega) (by omega) (by omega) (by omega) (dst_pass hd r q) (by rw [pm7_1]; exact h1) (by rw [pm7_1]; exact h2) (by rw [pm7_1]; rfl) (by rw [pm7_1]; rfl) (by rw [pm7_1]; rfl) (by omega) (by omega) (by omega)
      exact ⟨C', su', r', g1, g2, g3, g4, g5, g6, kp7_t (kp7_pm _ _ _ _) g7, g8, g9⟩
theorem rounds_A7 {ins we : Nat → Int32} {g : Nat → Nat} (hw : ∀ i, i < 40 → we i = nI (g i)) {N : Nat} (hN : N ≤ 40) {op wr : Nat → Int32} : ∀ (k x n m : Nat) (C R : mm_M) (su sr : Nat → Int32) (r q : Nat), gsum (oth ins su) 40 ≤ k → k ≤ 40 - x → x ≤ 40 → 40 < n + x → k < m → Dst ins su g → drR N ins su g op wr sr → C.1 56 = ins → C.1 58 = we → C.1 57 = su → C.1 7 4 = nI r → C.1 7 5 = nI q → R.1 0 2 = nI N → R.1 6 = op → R.1 5 = wr → R.1 18 = sr → R.1 0 22 = nI r → R.1 0 23 = nI q → r ≤ 40 → q = gsum (otw ins su g) 40 → 1 ≤ r → r < gsum (oth ins su) 40 → ∃ C' R' su' sr' r' q', f_X2_reckon_7_101 n (nI x) C = some C' ∧ f_X12_findSure_119 m 1 R = some R' ∧ C'.1 56 = ins ∧ C'.1 58 = we ∧ C'.1 57 = su' ∧ C'.1 7 4 = nI r' ∧ C'.1 7 5 = nI q' ∧ R'.1 18 = sr' ∧ R'.1 0 22 = nI r' ∧ R'.1 0 23 = nI q' ∧ kp7 C C' ∧ kpF R R' ∧ Drw ins su' g r' q' ∧ drR N ins su' g op wr sr' := by
  intro k
  induction k with
  | zero =>
    intro x n m C R su sr r q hk hx hx2 hn hm hd hdr h1 h2 h3 h4 h5 j0 j1 j2 j3 j4 j5 hr hq hr1 hu
    omega
  | succ k ih =>
    intro x n m C R su sr r q hk hx hx2 hn hm hd hdr h1 h2 h3 h4 h5 j0 j1 j2 j3 j4 j5 hr hq hr1 hu
    obtain ⟨n, rfl⟩ : ∃ q, n = q + 1 := ⟨n - 1, by omega⟩
    obtain ⟨m, rfl⟩ : ∃ q, m = q + 1 := ⟨m - 1, by omega⟩
    have hc := pass_U ins su g r q
    have hw0 := pass_W ins su g r q
    have hlt := pass_A (fun i hi => (hd i hi).2.2.2.2) hq hr1 hu
    have hq2 : q ≤ 800 := by rw [hq]; exact otw_le (fun i hi => (hd i hi).2.2.1)
    have kr := pass_r (ins := op) (we := wr) (su := sr) (g := fun i => nN (wr i)) (N := r) (A := q) (c := N) (nI r) (nI q) hN (fun i hi => ⟨(rng_n (hdr.1 i hi).2.2.2 (by omega)).1, (rng_n (hdr.1 i hi).2.2.2 (by omega)).2.2⟩) hr hq2 (f_X12_findSure_226 (f_X12_findSure_119 m)) N 0 mm_fu R (by omega) (fuGt (by omega)) j0 j1 j2 (by rw [psu_0]; exact j3) (by rw [j4]; exact (Int32.sub_zero _).symm) (by rw [j5]; exact (Int32.sub_zero _).symm)
    rw [drR_c hdr hN, drR_w hdr hN, pk_sub (by omega), pk_sub (by omega)] at kr
    have hdr2 := drR_p hdr hN r q
    have eR : f_X12_findSure_119 (m + 1) 1 R = f_X12_findSure_119 m (flg (gsum (chg ins su g r q) 40)) (pmR R (psu op sr (fun i => nN (wr i)) r q N) (nI (r - gsum (chg ins su g r q) 40)) (nI (q - gsum (chw ins su g r q) 40))) := by
      conv => lhs; unfold f_X12_findSure_119 mI
      rw [if_neg n10, let_, let_, j4, j5]
      exact kr
    rw [eR]
    unfold f_X2_reckon_7_101
    rw [if_neg (show ¬ (40 : Int32) ≤ nI x from nI_ge (b := 40) (by omega) (by decide)), make7 hd hw h1 h2 h3 h4 h5 hr hq (by omega), bi_]
    by_cases e : gsum (chg ins su g r q) 40 = 0
    · rw [flg_0 e, if_pos rfl]
      have hD : Drw ins su g r q := dst_end hd hr hq e (Or.inr hr1)
      have hs : psu ins su g r q 40 = su := by
        funext p
        unfold psu
        by_cases hp : p < 40 ∧ ¬ ins p = 0 ∧ su p = 0 ∧ q ≤ r * g p
        · have := pass_no e p hp.1 hp.2.1 hp.2.2.1
          omega
        · rw [if_neg hp]
      have hw1 : gsum (chw ins su g r q) 40 = 0 := by
        rw [hs] at hw0
        omega
      obtain ⟨m, rfl⟩ : ∃ q, m = q + 1 := ⟨m - 1, by omega⟩
      unfold f_X12_findSure_119
      rw [if_pos rfl]
      rw [hs] at hdr2
      rw [hs, e, hw1]
      exact ⟨_, _, su, psu op sr (fun i => nN (wr i)) r q N, r, q, rfl, rfl, by rw [pm7_1]; exact h1, by rw [pm7_1]; exact h2, by rw [pm7_1]; rfl, by rw [pm7_1]; rfl, by rw [pm7_1]; rfl, by rw [pmR_1]; rfl, by rw [pmR_1]; rfl, by rw [pmR_1]; rfl, kp7_pm _ _ _ _, kpF_pm _ _ _ _, hD, hdr2⟩
    · rw [flg_1 e, if_neg n10, add1]
      obtain ⟨C', R', su', sr', r', q', g1, g2, g3, g4, g5, g6, g7, g8, g9, g10, g11, g12, g13, g14⟩ := ih (x + 1) n m (pm7 C (psu ins su g r q 40) (nI (r - gsum (chg ins su g r q) 40)) (nI (q - gsum (chw ins su g r q) 40))) (pmR R (psu op sr (fun i => nN (wr i)) r q N) (nI (r - gsum (chg ins su g r q) 40)) (nI (q - gsum (chw ins su g r q) 40))) (psu ins su g r q 40) (psu op sr (fun i => nN (wr i)) r q N) (r - gsum (chg ins su g r q) 40) (q - gsum (chw ins su g r q) 40) (by omega) (by omega) (by omega) (by omega) (by omega) (dst_pass hd r q) hdr2 (by rw [pm7_1]; exact h1) (by rw [pm7_1]; exact h2) (by rw [pm7_1]; rfl) (by rw [pm7_1]; rfl) (by rw [pm7_1]; rfl) (by rw [pmR_1]; exact j0) (by rw [pmR_1]; exact j1) (by rw [pmR_1]; exact j2) (by rw [pmR_1]; rfl) (by rw [pmR_1]; rfl) (by rw [pmR_1]; rfl) (by omega) (by omega) (by omega) (by omega)
      exact ⟨C', R', su', sr', r', q', g1, g2, g3, g4, g5, g6, g7, g8, g9, g10, kp7_t (kp7_pm _ _ _ _) g11, kpF_t (kpF_pm _ _ _ _) g12, g13, g14⟩
theorem sure_ok7 {C R : mm_M} {n a : Nat} {op we : Nat → Int32} (c1 : C.1 2 8 = nI n) (c2 : C.1 31 = op) (c3 : C.1 30 = we) (r1 : R.1 0 2 = nI n) (r2 : R.1 6 = op) (r3 : R.1 5 = we) (hn : n ≤ 40) (hop : ∀ j, j < n → rng (op j) 0 1) (hwe : ∀ j, j < n → rng (we j) 1 20) (ha : a ≤ 40) (ha1 : 1 ≤ a) : ∃ C' R' su r q, f_X2_reckon_7 (nI a) C = some C' ∧ f_X12_findSure (nI a) R = some R' ∧ (∀ j, j < 40 → C'.1 56 j = dIns n op j ∧ C'.1 58 j = nI (dWe n op we j)) ∧ C'.1 57 = su ∧ C'.1 7 4 = nI r ∧ C'.1 7 5 = nI q ∧ (∀ j, j < n → R'.1 18 j = su j) ∧ R'.1 0 23 = nI q ∧ (q ≠ 0 → R'.1 0 22 = nI r) ∧ kp7 C C' ∧ kpF R R' ∧ Drw (C'.1 56) su (dWe n op we) r q := by
  obtain ⟨C1, p1, p2, p3, p4, p5⟩ := reck7 (C := sI (sI C 7 4 (nI a)) 7 5 (nI 0)) (by simp (disch := omega) only [mI, let_, bi_, bv_, ckI, clI, nI_leI, nI_ltI, nI_eq, nI_add, add1, ad0, pk_mul, pk_sub, e0, e1, ge0, lt0, le0, gt0, lt1, l2_, l3, l4, l5, l6, l7, l8, l9, l10, l12, l13, l20, l26, l30, l40, l80, l99, l100, l240, l320, l999, l1000, l2000, a11, a01, z01, z00, bz0, bz1, s1, s2, l1, l2, upd_at, Nat.reduceEqDiff, reduceIte]; exact c1) hn (by simp (disch := omega) only [mI, let_, bi_, bv_, ckI, clI, nI_leI, nI_ltI, nI_eq, nI_add, add1, ad0, pk_mul, pk_sub, e0, e1, ge0, lt0, le0, gt0, lt1, l2_, l3, l4, l5, l6, l7, l8, l9, l10, l12, l13, l20, l26, l30, l40, l80, l99, l100, l240, l320, l999, l1000, l2000, a11, a01, z01, z00, bz0, bz1, s1, s2, l1, l2, upd_at, Nat.reduceEqDiff, reduceIte]; exact c2) (by simp (disch := omega) only [mI, let_, bi_, bv_, ckI, clI, nI_leI, nI_ltI, nI_eq, nI_add, add1, ad0, pk_mul, pk_sub, e0, e1, ge0, lt0, le0, gt0, lt1, l2_, l3, l4, l5, l6, l7, l8, l9, l10, l12, l13, l20, l26, l30, l40, l80, l99, l100, l240, l320, l999, l1000, l2000, a11, a01, z01, z00, bz0, bz1, s1, s2, l1, l2, upd_at, Nat.reduceEqDiff, reduceIte]; exact c3) hop hwe (by simp (disch := omega) only [mI, let_, bi_, bv_, ckI, clI, nI_leI, nI_ltI, nI_eq, nI_add, add1, ad0, pk_mul, pk_sub, e0, e1, ge0, lt0, le0, gt0, lt1, l2_, l3, l4, l5, l6, l7, l8, l9, l10, l12, l13, l20, l26, l30, l40, l80, l99, l100, l240, l320, l999, l1000, l2000, a11, a01, z01, z00, bz0, bz1, s1, s2, l1, l2, upd_at, Nat.reduceEqDiff, reduceIte]) f_X2_reckon_7_99
  have p4 : C1.1 7 4 = nI a := by rw [p4]; simp (disch := omega) only [mI, let_, bi_, bv_, ckI, clI, nI_leI, nI_ltI, nI_eq, nI_add, add1, ad0, pk_mul, pk_sub, e0, e1, ge0, lt0, le0, gt0, lt1, l2_, l3, l4, l5, l6, l7, l8, l9, l10, l12, l13, l20, l26, l30, l40, l80, l99, l100, l240, l320, l999, l1000, l2000, a11, a01, z01, z00, bz0, bz1, s1, s2, l1, l2, upd_at, Nat.reduceEqDiff, reduceIte]
  have pk : kp7 C C1 := by
    refine kp7_t ⟨fun z z1 z2 z3 z4 => ?_, fun j j1 j2 => ?_⟩ p5
    · simp (disch := omega) only [mI, let_, bi_, bv_, ckI, clI, nI_leI, nI_ltI, nI_eq, nI_add, add1, ad0, pk_mul, pk_sub, e0, e1, ge0, lt0, le0, gt0, lt1, l2_, l3, l4, l5, l6, l7, l8, l9, l10, l12, l13, l20, l26, l30, l40, l80, l99, l100, l240, l320, l999, l1000, l2000, a11, a01, z01, z00, bz0, bz1, s1, s2, l1, l2, upd_at, Nat.reduceEqDiff, reduceIte, z1]
    · simp (disch := omega) only [mI, let_, bi_, bv_, ckI, clI, nI_leI, nI_ltI, nI_eq, nI_add, add1, ad0, pk_mul, pk_sub, e0, e1, ge0, lt0, le0, gt0, lt1, l2_, l3, l4, l5, l6, l7, l8, l9, l10, l12, l13, l20, l26, l30, l40, l80, l99, l100, l240, l320, l999, l1000, l2000, a11, a01, z01, z00, bz0, bz1, s1, s2, l1, l2, upd_at, Nat.reduceEqDiff, reduceIte, j1, j2]
  have hd : Dst (C1.1 56) (C1.1 57) (dWe n op we) := by
    intro j hj
    obtain ⟨q1, q2, q3⟩ := p2 j hj
    rw [q1, q2]
    unfold dIns dWe
    by_cases e : j < n ∧ ¬ op j = 0
    · rw [if_pos e, if_pos e]
      obtain ⟨w1, w2, w3⟩ := rng_n (hwe j e.1) (by omega)
      exact ⟨Or.inr rfl, Or.inl rfl, w3, fun _ => rfl, fun _ => w2⟩
    · rw [if_neg e, if_neg e]
      exact ⟨Or.inl rfl, Or.inl rfl, by omega, fun _ => rfl, fun q => absurd rfl q⟩
  have hu : gsum (oth (C1.1 56) (C1.1 57)) 40 = cnt op n := cnt_oth hn (fun j hj => (p2 j hj).1) (fun j hj => (p2 j hj).2.1)
  have hu2 := oth_le (C1.1 56) (C1.1 57)
  have hq : gsum (dWe n op we) 40 = gsum (otw (C1.1 56) (C1.1 57) (dWe n op we)) 40 := by
    refine gsum_eq (fun j hj => ?_)
    obtain ⟨q1, q2, q3⟩ := p2 j hj
    unfold otw
    rw [q1, q2]
    by_cases e : j < n ∧ ¬ op j = 0
    · rw [if_pos ⟨by unfold dIns; rw [if_pos e]; exact n10, rfl⟩]
    · rw [if_neg (fun q => q.1 (if_neg e))]
      exact if_neg e
  have eC : f_X2_reckon_7 (nI a) C = f_X2_reckon_7_101 mm_fu (nI 0) C1 := p1
  have eR : f_X12_findSure (nI a) R = if nI a < nI (cnt op n) then f_X12_findSure_26 f_X12_findSure_96 mm_fu (nI a) 0 (nI 0) (sI (sI R 0 22 (nI a)) 0 23 0) else f_X12_findSure_26 f_X12_findSure_96 mm_fu (nI a) 1 (nI 0) (sI (sI R 0 22 (nI a)) 0 23 0) := by
    unfold f_X12_findSure f_X12_findSure_23
    rw [let_, let_, openMany_ok (c := n) (by simp (disch := omega) only [mI, let_, bi_, bv_, ckI, clI, nI_leI, nI_ltI, nI_eq, nI_add, add1, ad0, pk_mul, pk_sub, e0, e1, ge0, lt0, le0, gt0, lt1, l2_, l3, l4, l5, l6, l7, l8, l9, l10, l12, l13, l20, l26, l30, l40, l80, l99, l100, l240, l320, l999, l1000, l2000, a11, a01, z01, z00, bz0, bz1, s1, s2, l1, l2, upd_at, Nat.reduceEqDiff, reduceIte]; exact r1) hn, bi_]
    simp (disch := omega) only [mI, let_, bi_, bv_, ckI, clI, nI_leI, nI_ltI, nI_eq, nI_add, add1, ad0, pk_mul, pk_sub, e0, e1, ge0, lt0, le0, gt0, lt1, l2_, l3, l4, l5, l6, l7, l8, l9, l10, l12, l13, l20, l26, l30, l40, l80, l99, l100, l240, l320, l999, l1000, l2000, a11, a01, z01, z00, bz0, bz1, s1, s2, l1, l2, upd_at, Nat.reduceEqDiff, reduceIte, r2]
    rfl
  have kR : kpF R (sI (sI R 0 22 (nI a)) 0 23 0) := by
    refine ⟨fun z z1 z2 => ?_, fun j j1 j2 => ?_⟩
    · simp (disch := omega) only [mI, let_, bi_, bv_, ckI, clI, nI_leI, nI_ltI, nI_eq, nI_add, add1, ad0, pk_mul, pk_sub, e0, e1, ge0, lt0, le0, gt0, lt1, l2_, l3, l4, l5, l6, l7, l8, l9, l10, l12, l13, l20, l26, l30, l40, l80, l99, l100, l240, l320, l999, l1000, l2000, a11, a01, z01, z00, bz0, bz1, s1, s2, l1, l2, upd_at, Nat.reduceEqDiff, reduceIte, z1]
    · simp (disch := omega) only [mI, let_, bi_, bv_, ckI, clI, nI_leI, nI_ltI, nI_eq, nI_add, add1, ad0, pk_mul, pk_sub, e0, e1, ge0, lt0, le0, gt0, lt1, l2_, l3, l4, l5, l6, l7, l8, l9, l10, l12, l13, l20, l26, l30, l40, l80, l99, l100, l240, l320, l999, l1000, l2000, a11, a01, z01, z00, bz0, bz1, s1, s2, l1, l2, upd_at, Nat.reduceEqDiff, reduceIte, j1, j2]
  have hcn : cnt op n ≤ n := cnt_le op n
  rw [eC, eR]
  by_cases hA : a < cnt op n
  · rw [if_pos (nI_lt hA (by omega))]
    obtain ⟨R1, s1_, s2_, s3_, s4_⟩ := fs26 (R := sI (sI R 0 22 (nI a)) 0 23 0) (n := n) (op := op) (we := we) (by simp (disch := omega) only [mI, let_, bi_, bv_, ckI, clI, nI_leI, nI_ltI, nI_eq, nI_add, add1, ad0, pk_mul, pk_sub, e0, e1, ge0, lt0, le0, gt0, lt1, l2_, l3, l4, l5, l6, l7, l8, l9, l10, l12, l13, l20, l26, l30, l40, l80, l99, l100, l240, l320, l999, l1000, l2000, a11, a01, z01, z00, bz0, bz1, s1, s2, l1, l2, upd_at, Nat.reduceEqDiff, reduceIte]; exact r1) hn (by simp (disch := omega) only [mI, let_, bi_, bv_, ckI, clI, nI_leI, nI_ltI, nI_eq, nI_add, add1, ad0, pk_mul, pk_sub, e0, e1, ge0, lt0, le0, gt0, lt1, l2_, l3, l4, l5, l6, l7, l8, l9, l10, l12, l13, l20, l26, l30, l40, l80, l99, l100, l240, l320, l999, l1000, l2000, a11, a01, z01, z00, bz0, bz1, s1, s2, l1, l2, upd_at, Nat.reduceEqDiff, reduceIte]; exact r2) (by simp (disch := omega) only [mI, let_, bi_, bv_, ckI, clI, nI_leI, nI_ltI, nI_eq, nI_add, add1, ad0, pk_mul, pk_sub, e0, e1, ge0, lt0, le0, gt0, lt1, l2_, l3, l4, l5, l6, l7, l8, l9, l10, l12, l13, l20, l26, l30, l40, l80, l99, l100, l240, l320, l999, l1000, l2000, a11, a01, z01, z00, bz0, bz1, s1, s2, l1, l2, upd_at, Nat.reduceEqDiff, reduceIte]; exact r3) hop hwe (by simp (disch := omega) only [mI, let_, bi_, bv_, ckI, clI, nI_leI, nI_ltI, nI_eq, nI_add, add1, ad0, pk_mul, pk_sub, e0, e1, ge0, lt0, le0, gt0, lt1, l2_, l3, l4, l5, l6, l7, l8, l9, l10, l12, l13, l20, l26, l30, l40, l80, l99, l100, l240, l320, l999, l1000, l2000, a11, a01, z01, z00, bz0, bz1, s1, s2, l1, l2, upd_at, Nat.reduceEqDiff, reduceIte]; rfl) (nI a) 0 (Or.inl rfl) f_X12_findSure_96
    rw [s1_]
    have t2 : (sI R1 0 22 (nI a)).1 0 2 = nI n := by simp (disch := omega) only [mI, let_, bi_, bv_, ckI, clI, nI_leI, nI_ltI, nI_eq, nI_add, add1, ad0, pk_mul, pk_sub, e0, e1, ge0, lt0, le0, gt0, lt1, l2_, l3, l4, l5, l6, l7, l8, l9, l10, l12, l13, l20, l26, l30, l40, l80, l99, l100, l240, l320, l999, l1000, l2000, a11, a01, z01, z00, bz0, bz1, s1, s2, l1, l2, upd_at, Nat.reduceEqDiff, reduceIte]; rw [s4_.2 2 (by omega) (by omega)]; simp (disch := omega) only [mI, let_, bi_, bv_, ckI, clI, nI_leI, nI_ltI, nI_eq, nI_add, add1, ad0, pk_mul, pk_sub, e0, e1, ge0, lt0, le0, gt0, lt1, l2_, l3, l4, l5, l6, l7, l8, l9, l10, l12, l13, l20, l26, l30, l40, l80, l99, l100, l240, l320, l999, l1000, l2000, a11, a01, z01, z00, bz0, bz1, s1, s2, l1, l2, upd_at, Nat.reduceEqDiff, reduceIte]; exact r1
    have t6 : (sI R1 0 22 (nI a)).1 6 = op := by simp (disch := omega) only [mI, let_, bi_, bv_, ckI, clI, nI_leI, nI_ltI, nI_eq, nI_add, add1, ad0, pk_mul, pk_sub, e0, e1, ge0, lt0, le0, gt0, lt1, l2_, l3, l4, l5, l6, l7, l8, l9, l10, l12, l13, l20, l26, l30, l40, l80, l99, l100, l240, l320, l999, l1000, l2000, a11, a01, z01, z00, bz0, bz1, s1, s2, l1, l2, upd_at, Nat.reduceEqDiff, reduceIte]; rw [s4_.1 6 (by omega) (by omega)]; simp (disch := omega) only [mI, let_, bi_, bv_, ckI, clI, nI_leI, nI_ltI, nI_eq, nI_add, add1, ad0, pk_mul, pk_sub, e0, e1, ge0, lt0, le0, gt0, lt1, l2_, l3, l4, l5, l6, l7, l8, l9, l10, l12, l13, l20, l26, l30, l40, l80, l99, l100, l240, l320, l999, l1000, l2000, a11, a01, z01, z00, bz0, bz1, s1, s2, l1, l2, upd_at, Nat.reduceEqDiff, reduceIte]; exact r2
    have t5 : (sI R1 0 22 (nI a)).1 5 = we := by simp (disch := omega) only [mI, let_, bi_, bv_, ckI, clI, nI_leI, nI_ltI, nI_eq, nI_add, add1, ad0, pk_mul, pk_sub, e0, e1, ge0, lt0, le0, gt0, lt1, l2_, l3, l4, l5, l6, l7, l8, l9, l10, l12, l13, l20, l26, l30, l40, l80, l99, l100, l240, l320, l999, l1000, l2000, a11, a01, z01, z00, bz0, bz1, s1, s2, l1, l2, upd_at, Nat.reduceEqDiff, reduceIte]; rw [s4_.1 5 (by omega) (by omega)]; simp (disch := omega) only [mI, let_, bi_, bv_, ckI, clI, nI_leI, nI_ltI, nI_eq, nI_add, add1, ad0, pk_mul, pk_sub, e0, e1, ge0, lt0, le0, gt0, lt1, l2_, l3, l4, l5, l6, l7, l8, l9, l10, l12, l13, l20, l26, l30, l40, l80, l99, l100, l240, l320, l999, l1000, l2000, a11, a01, z01, z00, bz0, bz1, s1, s2, l1, l2, upd_at, Nat.reduceEqDiff, reduceIte]; exact r3
    have tq : (sI R1 0 22 (nI a)).1 0 23 = nI (gsum (dWe n op we) 40) := by
      simp (disch := omega) only [mI, let_, bi_, bv_, ckI, clI, nI_leI, nI_ltI, nI_eq, nI_add, add1, ad0, pk_mul, pk_sub, e0, e1, ge0, lt0, le0, gt0, lt1, l2_, l3, l4, l5, l6, l7, l8, l9, l10, l12, l13, l20, l26, l30, l40, l80, l99, l100, l240, l320, l999, l1000, l2000, a11, a01, z01, z00, bz0, bz1, s1, s2, l1, l2, upd_at, Nat.reduceEqDiff, reduceIte]
      rw [s3_, gsum_cut (f := dWe n op we) hn (fun i h1 h2 => if_neg (by omega))]
      simp only [reduceIte]
    have tr : (sI R1 0 22 (nI a)).1 0 22 = nI a := by simp (disch := omega) only [mI, let_, bi_, bv_, ckI, clI, nI_leI, nI_ltI, nI_eq, nI_add, add1, ad0, pk_mul, pk_sub, e0, e1, ge0, lt0, le0, gt0, lt1, l2_, l3, l4, l5, l6, l7, l8, l9, l10, l12, l13, l20, l26, l30, l40, l80, l99, l100, l240, l320, l999, l1000, l2000, a11, a01, z01, z00, bz0, bz1, s1, s2, l1, l2, upd_at, Nat.reduceEqDiff, reduceIte]
    have hdr : drR n (C1.1 56) (C1.1 57) (dWe n op we) op we ((sI R1 0 22 (nI a)).1 18) := by
      refine ⟨fun j hj => ⟨?_, ?_, ?_, hwe j hj⟩, fun j h1 h2 => ?_⟩
      · rw [(p2 j (by omega)).1]
        unfold dIns
        by_cases e : op j = 0
        · rw [if_neg (fun q => q.2 e)]
          exact iff_of_true e rfl
        · rw [if_pos ⟨hj, e⟩]
          exact iff_of_false e n10
      · rw [(p2 j (by omega)).1]
        unfold dIns dWe
        by_cases e : op j = 0
        · rw [if_neg (fun q => q.2 e)]
          exact fun q => absurd rfl q
        · rw [if_pos ⟨hj, e⟩, if_pos ⟨hj, e⟩]
          exact fun _ => rfl
      · simp (disch := omega) only [mI, let_, bi_, bv_, ckI, clI, nI_leI, nI_ltI, nI_eq, nI_add, add1, ad0, pk_mul, pk_sub, e0, e1, ge0, lt0, le0, gt0, lt1, l2_, l3, l4, l5, l6, l7, l8, l9, l10, l12, l13, l20, l26, l30, l40, l80, l99, l100, l240, l320, l999, l1000, l2000, a11, a01, z01, z00, bz0, bz1, s1, s2, l1, l2, upd_at, Nat.reduceEqDiff, reduceIte]
        rw [s2_ j hj, if_pos rfl, (p2 j (by omega)).2.1]
      · rw [(p2 j h2).1]
        exact if_neg (by omega)
    obtain ⟨C', R', su', sr', r', q', g1, g2, g3, g4, g5, g6, g7, g8, g9, g10, g11, g12, g13, g14⟩ := rounds_A7 (ins := C1.1 56) (we := C1.1 58) (g := dWe n op we) (fun i hi => (p2 i hi).2.2) hn (op := op) (wr := we) 40 0 mm_fu mm_fu C1 (sI R1 0 22 (nI a)) (C1.1 57) ((sI R1 0 22 (nI a)).1 18) a (gsum (dWe n op we) 40) (by omega) (by omega) (by omega) (fuGt (by omega)) (fuGt (by omega)) hd hdr rfl rfl rfl p4 p3 t2 t6 t5 rfl tr tq ha hq ha1 (by omega)
    refine ⟨C', R', su', r', q', g1, ?_, fun j hj => ⟨by rw [g3]; exact (p2 j hj).1, by rw [g4]; exact (p2 j hj).2.2⟩, g5, g6, g7, fun j hj => by rw [g8]; exact (g14.1 j hj).2.2.1, g10, fun _ => g9, kp7_t pk g11, kpF_t kR (kpF_t s4_ (kpF_t ⟨fun z z1 z2 => by simp (disch := omega) only [mI, let_, bi_, bv_, ckI, clI, nI_leI, nI_ltI, nI_eq, nI_add, add1, ad0, pk_mul, pk_sub, e0, e1, ge0, lt0, le0, gt0, lt1, l2_, l3, l4, l5, l6, l7, l8, l9, l10, l12, l13, l20, l26, l30, l40, l80, l99, l100, l240, l320, l999, l1000, l2000, a11, a01, z01, z00, bz0, bz1, s1, s2, l1, l2, upd_at, Nat.reduceEqDiff, reduceIte, z1], fun j j1 j2 => by simp (disch := omega) only [mI, let_, bi_, bv_, ckI, clI, nI_leI, nI_ltI, nI_eq, nI_add, add1, ad0, pk_mul, pk_sub, e0, e1, ge0, lt0, le0, gt0, lt1, l2_, l3, l4, l5, l6, l7, l8, l9, l10, l12, l13, l20, l26, l30, l40, l80, l99, l100, l240, l320, l999, l1000, l2000, a11, a01, z01, z00, bz0, bz1, s1, s2, l1, l2, upd_at, Nat.reduceEqDiff, reduceIte, j1]⟩ g12)), by rw [g3]; exact g13⟩
    unfold f_X12_findSure_96 f_X12_findSure_106 f_X12_findSure_118
    rw [if_pos rfl, let_, if_pos rfl]
    exact g2
  · rw [if_neg (nI_nlt (by omega) (by omega))]
    obtain ⟨R1, s1_, s2_, s3_, s4_⟩ := fs26 (R := sI (sI R 0 22 (nI a)) 0 23 0) (n := n) (op := op) (we := we) (by simp (disch := omega) only [mI, let_, bi_, bv_, ckI, clI, nI_leI, nI_ltI, nI_eq, nI_add, add1, ad0, pk_mul, pk_sub, e0, e1, ge0, lt0, le0, gt0, lt1, l2_, l3, l4, l5, l6, l7, l8, l9, l10, l12, l13, l20, l26, l30, l40, l80, l99, l100, l240, l320, l999, l1000, l2000, a11, a01, z01, z00, bz0, bz1, s1, s2, l1, l2, upd_at, Nat.reduceEqDiff, reduceIte]; exact r1) hn (by simp (disch := omega) only [mI, let_, bi_, bv_, ckI, clI, nI_leI, nI_ltI, nI_eq, nI_add, add1, ad0, pk_mul, pk_sub, e0, e1, ge0, lt0, le0, gt0, lt1, l2_, l3, l4, l5, l6, l7, l8, l9, l10, l12, l13, l20, l26, l30, l40, l80, l99, l100, l240, l320, l999, l1000, l2000, a11, a01, z01, z00, bz0, bz1, s1, s2, l1, l2, upd_at, Nat.reduceEqDiff, reduceIte]; exact r2) (by simp (disch := omega) only [mI, let_, bi_, bv_, ckI, clI, nI_leI, nI_ltI, nI_eq, nI_add, add1, ad0, pk_mul, pk_sub, e0, e1, ge0, lt0, le0, gt0, lt1, l2_, l3, l4, l5, l6, l7, l8, l9, l10, l12, l13, l20, l26, l30, l40, l80, l99, l100, l240, l320, l999, l1000, l2000, a11, a01, z01, z00, bz0, bz1, s1, s2, l1, l2, upd_at, Nat.reduceEqDiff, reduceIte]; exact r3) hop hwe (by simp (disch := omega) only [mI, let_, bi_, bv_, ckI, clI, nI_leI, nI_ltI, nI_eq, nI_add, add1, ad0, pk_mul, pk_sub, e0, e1, ge0, lt0, le0, gt0, lt1, l2_, l3, l4, l5, l6, l7, l8, l9, l10, l12, l13, l20, l26, l30, l40, l80, l99, l100, l240, l320, l999, l1000, l2000, a11, a01, z01, z00, bz0, bz1, s1, s2, l1, l2, upd_at, Nat.reduceEqDiff, reduceIte]; rfl) (nI a) 1 (Or.inr rfl) f_X12_findSure_96
    rw [s1_]
    obtain ⟨C', su', r', g1, g2, g3, g4, g5, g6, g7, g8, g9⟩ := rounds_B7 (ins := C1.1 56) (we := C1.1 58) (g := dWe n op we) (fun i hi => (p2 i hi).2.2) 40 0 mm_fu C1 (C1.1 57) a (gsum (dWe n op we) 40) (by omega) (by omega) (by omega) (fuGt (by omega)) hd rfl rfl rfl p4 p3 ha hq (by omega)
    refine ⟨C', sI R1 0 22 0, su', r', 0, g1, ?_, fun j hj => ⟨by rw [g2]; exact (p2 j hj).1, by rw [g3]; exact (p2 j hj).2.2⟩, g4, g5, g6, fun j hj => ?_, ?_, fun q => absurd rfl q, kp7_t pk g7, kpF_t kR (kpF_t s4_ ⟨fun z z1 z2 => by simp (disch := omega) only [mI, let_, bi_, bv_, ckI, clI, nI_leI, nI_ltI, nI_eq, nI_add, add1, ad0, pk_mul, pk_sub, e0, e1, ge0, lt0, le0, gt0, lt1, l2_, l3, l4, l5, l6, l7, l8, l9, l10, l12, l13, l20, l26, l30, l40, l80, l99, l100, l240, l320, l999, l1000, l2000, a11, a01, z01, z00, bz0, bz1, s1, s2, l1, l2, upd_at, Nat.reduceEqDiff, reduceIte, z1], fun j j1 j2 => by simp (disch := omega) only [mI, let_, bi_, bv_, ckI, clI, nI_leI, nI_ltI, nI_eq, nI_add, add1, ad0, pk_mul, pk_sub, e0, e1, ge0, lt0, le0, gt0, lt1, l2_, l3, l4, l5, l6, l7, l8, l9, l10, l12, l13, l20, l26, l30, l40, l80, l99, l100, l240, l320, l999, l1000, l2000, a11, a01, z01, z00, bz0, bz1, s1, s2, l1, l2, upd_at, Nat.reduceEqDiff, reduceIte, j1]⟩), by rw [g2]; exact g8⟩
    · unfold f_X12_findSure_96 f_X12_findSure_106 f_X12_findSure_118
      rw [if_neg n10, let_, if_neg n10]
      rfl
    · simp (disch := omega) only [mI, let_, bi_, bv_, ckI, clI, nI_leI, nI_ltI, nI_eq, nI_add, add1, ad0, pk_mul, pk_sub, e0, e1, ge0, lt0, le0, gt0, lt1, l2_, l3, l4, l5, l6, l7, l8, l9, l10, l12, l13, l20, l26, l30, l40, l80, l99, l100, l240, l320, l999, l1000, l2000, a11, a01, z01, z00, bz0, bz1, s1, s2, l1, l2, upd_at, Nat.reduceEqDiff, reduceIte]
      rw [s2_ j hj, if_neg n10]
      obtain ⟨d1, d2, d3, d4, d5⟩ := g8.1 j (by omega)
      rw [(p2 j (by omega)).1] at d1 d4
      rcases d2 with z | z
      · have := gsum_0 g9 j (by omega)
        unfold oth at this
        by_cases e : C1.1 56 j = 0
        · rw [z, ← (p2 j (by omega)).1]
          exact e
        · rw [if_pos ⟨e, z⟩] at this
          omega
      · rw [z]
        rcases d1 with y | y
        · exact absurd (d4 y) (by rw [z]; exact n10)
        · exact y
    · simp (disch := omega) only [mI, let_, bi_, bv_, ckI, clI, nI_leI, nI_ltI, nI_eq, nI_add, add1, ad0, pk_mul, pk_sub, e0, e1, ge0, lt0, le0, gt0, lt1, l2_, l3, l4, l5, l6, l7, l8, l9, l10, l12, l13, l20, l26, l30, l40, l80, l99, l100, l240, l320, l999, l1000, l2000, a11, a01, z01, z00, bz0, bz1, s1, s2, l1, l2, upd_at, Nat.reduceEqDiff, reduceIte]
      rw [s3_, gsum_z (fun i _ => if_neg n10)]

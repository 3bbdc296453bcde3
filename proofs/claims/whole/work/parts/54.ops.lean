theorem fs26 {R : mm_M} {n : Nat} {op we : Nat → Int32} (h1 : R.1 0 2 = nI n) (hn : n ≤ 40) (ho : R.1 6 = op) (hw : R.1 5 = we) (hop : ∀ j, j < n → rng (op j) 0 1) (hwe : ∀ j, j < n → rng (we j) 1 20) (h6 : R.1 0 23 = nI 0) (x1 x2 : Int32) (hx : x2 = 0 ∨ x2 = 1) (K : Int32 → Int32 → mm_M → Option mm_M) : ∃ R', f_X12_findSure_26 K mm_fu x1 x2 (nI 0) R = K x1 x2 R' ∧ (∀ j, j < n → R'.1 18 j = if x2 = 0 then 0 else dIns n op j) ∧ R'.1 0 23 = nI (gsum (fun j => if x2 = 0 then dWe n op we j else 0) n) ∧ kpF R R' := by
  refine lpMf (fun n s M => f_X12_findSure_26 K n x1 x2 (nI s) M) (fun s M => (∀ j, j < s → M.1 18 j = if x2 = 0 then 0 else dIns n op j) ∧ M.1 0 23 = nI (gsum (fun j => if x2 = 0 then dWe n op we j else 0) s) ∧ kpF R M) (fun b => ∃ R', b = K x1 x2 R' ∧ (∀ j, j < n → R'.1 18 j = if x2 = 0 then 0 else dIns n op j) ∧ R'.1 0 23 = nI (gsum (fun j => if x2 = 0 then dWe n op we j else 0) n) ∧ kpF R R') (c := n) R (by omega) ⟨fun j hj => absurd hj (by omega), h6, fun _ _ _ => rfl, fun _ _ _ => rfl⟩ ?_ ?_
  · intro s m M hs hI ih
    obtain ⟨i1, i2, i3, i4⟩ := hI
    have q40 : ¬ n ≤ s := by omega
    have k28 : M.1 0 2 = nI n := by rw [i4 2 (by omega) (by omega)]; exact h1
    have k31 : M.1 6 = op := by rw [i3 6 (by omega) (by omega)]; exact ho
    have k30 : M.1 5 = we := by rw [i3 5 (by omega) (by omega)]; exact hw
    obtain ⟨w1, w2, w3⟩ := rng_n (hwe s hs) (by omega)
    have keep : ∀ (v w : Int32), (v = if x2 = 0 then 0 else dIns n op s) → (w = nI (gsum (fun j => if x2 = 0 then dWe n op we j else 0) (s + 1))) → ∃ R', f_X12_findSure_26 K m x1 x2 (nI (s + 1)) (sI (sI M 18 s v) 0 23 w) = K x1 x2 R' ∧ (∀ j, j < n → R'.1 18 j = if x2 = 0 then 0 else dIns n op j) ∧ R'.1 0 23 = nI (gsum (fun j => if x2 = 0 then dWe n op we j else 0) n) ∧ kpF R R' := by
      intro v w hv hw
      refine ih _ ⟨fun j hj => ?_, ?_, fun a a1 a2 => ?_, fun j j1 j2 => ?_⟩
      · simp (disch := omega) only [mI, let_, bi_, bv_, ckI, clI, nI_leI, nI_ltI, nI_eq, nI_add, add1, ad0, pk_mul, pk_sub, e0, e1, ge0, lt0, le0, gt0, lt1, l2_, l3, l4, l5, l6, l7, l8, l9, l10, l12, l13, l20, l26, l30, l40, l80, l99, l100, l240, l320, l999, l1000, l2000, a11, a01, z01, z00, bz0, bz1, s1, s2, l1, l2, upd_at, Nat.reduceEqDiff, reduceIte]
        by_cases ej : j = s
        · rw [if_pos ej, ej]
          exact hv
        · rw [if_neg ej]
          exact i1 j (by omega)
      · simp (disch := omega) only [mI, let_, bi_, bv_, ckI, clI, nI_leI, nI_ltI, nI_eq, nI_add, add1, ad0, pk_mul, pk_sub, e0, e1, ge0, lt0, le0, gt0, lt1, l2_, l3, l4, l5, l6, l7, l8, l9, l10, l12, l13, l20, l26, l30, l40, l80, l99, l100, l240, l320, l999, l1000, l2000, a11, a01, z01, z00, bz0, bz1, s1, s2, l1, l2, upd_at, Nat.reduceEqDiff, reduceIte]
        exact hw
      · simp (disch := omega) only [mI, let_, bi_, bv_, ckI, clI, nI_leI, nI_ltI, nI_eq, nI_add, add1, ad0, pk_mul, pk_sub, e0, e1, ge0, lt0, le0, gt0, lt1, l2_, l3, l4, l5, l6, l7, l8, l9, l10, l12, l13, l20, l26, l30, l40, l80, l99, l100, l240, l320, l999, l1000, l2000, a11, a01, z01, z00, bz0, bz1, s1, s2, l1, l2, upd_at, Nat.reduceEqDiff, reduceIte, a1, a2]
        exact i3 a a1 a2
      · simp (disch := omega) only [mI, let_, bi_, bv_, ckI, clI, nI_leI, nI_ltI, nI_eq, nI_add, add1, ad0, pk_mul, pk_sub, e0, e1, ge0, lt0, le0, gt0, lt1, l2_, l3, l4, l5, l6, l7, l8, l9, l10, l12, l13, l20, l26, l30, l40, l80, l99, l100, l240, l320, l999, l1000, l2000, a11, a01, z01, z00, bz0, bz1, s1, s2, l1, l2, upd_at, Nat.reduceEqDiff, reduceIte, j1, j2]
        exact i4 j j1 j2
    show ∃ R', f_X12_findSure_26 K (m + 1) x1 x2 (nI s) M = K x1 x2 R' ∧ _
    unfold f_X12_findSure_26 f_X12_findSure_56 f_X12_findSure_57 f_X12_findSure_85 f_X12_findSure_86
    rcases rn01 (hop s hs) with e | e
    · have d1 : dIns n op s = 0 := if_neg (fun q => q.2 e)
      have d2 : dWe n op we s = 0 := if_neg (fun q => q.2 e)
      simp (disch := omega) only [mI, let_, bi_, bv_, ckI, clI, nI_leI, nI_ltI, nI_eq, nI_add, add1, ad0, pk_mul, pk_sub, e0, e1, ge0, lt0, le0, gt0, lt1, l2_, l3, l4, l5, l6, l7, l8, l9, l10, l12, l13, l20, l26, l30, l40, l80, l99, l100, l240, l320, l999, l1000, l2000, a11, a01, z01, z00, bz0, bz1, s1, s2, l1, l2, upd_at, Nat.reduceEqDiff, reduceIte, q40, k28, k31, k30, e, i2]
      refine keep _ _ ?_ ?_
      · rw [d1]
        split <;> rfl
      · rw [gsum_s, d2]
        congr 1
        split <;> rfl
    · have e' : ¬ op s = 0 := by rw [e]; exact n10
      have d1 : dIns n op s = 1 := if_pos ⟨hs, e'⟩
      have d2 : dWe n op we s = nN (we s) := if_pos ⟨hs, e'⟩
      rcases hx with rfl | rfl
      · simp (disch := omega) only [mI, let_, bi_, bv_, ckI, clI, nI_leI, nI_ltI, nI_eq, nI_add, add1, ad0, pk_mul, pk_sub, e0, e1, ge0, lt0, le0, gt0, lt1, l2_, l3, l4, l5, l6, l7, l8, l9, l10, l12, l13, l20, l26, l30, l40, l80, l99, l100, l240, l320, l999, l1000, l2000, a11, a01, z01, z00, bz0, bz1, s1, s2, l1, l2, upd_at, Nat.reduceEqDiff, reduceIte, q40, k28, k31, k30, e, i2]
        refine keep _ _ ?_ ?_
        · rw [if_pos rfl]
        · rw [gsum_s, if_pos rfl, d2, ← nI_add, ← w1]
          simp only [reduceIte]
      · simp (disch := omega) only [mI, let_, bi_, bv_, ckI, clI, nI_leI, nI_ltI, nI_eq, nI_add, add1, ad0, pk_mul, pk_sub, e0, e1, ge0, lt0, le0, gt0, lt1, l2_, l3, l4, l5, l6, l7, l8, l9, l10, l12, l13, l20, l26, l30, l40, l80, l99, l100, l240, l320, l999, l1000, l2000, a11, a01, z01, z00, bz0, bz1, s1, s2, l1, l2, upd_at, Nat.reduceEqDiff, reduceIte, q40, k28, k31, k30, e, i2]
        refine keep _ _ ?_ ?_
        · rw [if_neg n10, d1]
        · rw [gsum_s, if_neg n10]
          rfl
  · intro m M hI
    show ∃ R', f_X12_findSure_26 K (m + 1) x1 x2 (nI n) M = K x1 x2 R' ∧ _
    unfold f_X12_findSure_26 mI
    rw [hI.2.2.2 2 (by omega) (by omega), h1, if_pos (nI_le (by omega) (by omega))]
    exact ⟨M, rfl, hI⟩
theorem cnt_oth {n : Nat} {op ins su : Nat → Int32} (hn : n ≤ 40) (hi : ∀ j, j < 40 → ins j = dIns n op j) (hs : ∀ j, j < 40 → su j = 0) : gsum (oth ins su) 40 = cnt op n := by
  rw [gsum_cut (f := oth ins su) hn (fun i h1 h2 => if_neg (fun q => q.1 (by rw [hi i h2]; exact if_neg (by omega))))]
  have : ∀ m, m ≤ n → m ≤ 40 → gsum (oth ins su) m = cnt op m := by
    intro m
    induction m with
    | zero => exact fun _ _ => rfl
    | succ m ih =>
      intro h1 h2
      rw [gsum_s, ih (by omega) (by omega)]
      by_cases e : op m = 0
      · rw [cnt_z e]
        show _ + oth ins su m = _
        unfold oth
        rw [if_neg (fun q => q.1 (by rw [hi m (by omega)]; exact if_neg (fun z => z.2 e)))]
        rfl
      · rw [cnt_nz e]
        show _ + oth ins su m = _
        unfold oth
        rw [if_pos ⟨by rw [hi m (by omega)]; unfold dIns; rw [if_pos ⟨by omega, e⟩]; exact n10, hs m (by omega)⟩]
  exact this n (Nat.le_refl _) hn

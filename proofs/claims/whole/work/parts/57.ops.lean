def dT (ins su : Nat → Int32) (g : Nat → Nat) (r j : Nat) : Nat := drTop r (nN (ins j)) (nN (su j)) (g j)
def dB (ins su : Nat → Int32) (q j : Nat) : Nat := drBel q (nN (ins j)) (nN (su j))
def dPart (ins su : Nat → Int32) (g : Nat → Nat) (r q : Nat) (top bl : Nat → Int32) (j : Nat) : Prop := top j = nI (dT ins su g r j / Nat.gcd (dT ins su g r j) (dB ins su q j)) ∧ bl j = nI (dB ins su q j / Nat.gcd (dT ins su g r j) (dB ins su q j))
theorem nN0 : nN 0 = 0 := rfl
theorem nN1 : nN 1 = 1 := rfl
theorem nz_ {α : Type} {b : Nat} (X : Option α) (h0 : 0 < b) (hb : b < 2 ^ 31) : mm_nz (nI b) X = X := by
  unfold mm_nz
  rw [if_neg (nI_ne0 h0 hb)]
theorem gcd_ok {a b : Nat} (M : mm_M) (ha : a < 2 ^ 60) (hb : b < 2 ^ 60) : f_X12_divisor (lN a) (lN b) M = some (lN (Nat.gcd a b), M) := gcd_r 60 a b mm_fu M hb (by omega) (by omega) (fuGt (by omega))
theorem drw77 {R : mm_M} {ins su op wr sr : Nat → Int32} {g : Nat → Nat} {n r q u : Nat} (hD : Drw ins su g r q) (hn : n ≤ 40) (hop : ∀ j, j < n → rng (op j) 0 1) (hin : ∀ j, j < 40 → ins j = dIns n op j) (hg : ∀ j, j < 40 → ¬ ins j = 0 → wr j = nI (g j)) (r1 : R.1 0 2 = nI n) (r2 : R.1 6 = op) (r3 : R.1 5 = wr) (r4 : ∀ j, j < n → R.1 18 j = su j) (r5 : R.1 0 23 = nI q) (r6 : q ≠ 0 → R.1 0 22 = nI r) (hu : u ≤ 999) : ∃ R', f_X12_draw_77 mm_fu (nI u) (nI 0) (lN 0) (nI 0) R = some (nI (cnt (dTk ins su g r q u) 40), R') ∧ (∀ j, j < 40 → R'.1 15 j = dTk ins su g r q u j) ∧ (∀ j, 40 ≤ j → R'.1 15 j = R.1 15 j) ∧ (∀ j, j < 40 → dPart ins su g r q (R'.1 16) (R'.1 17) j) ∧ ∀ a, a ≠ 15 → a ≠ 16 → a ≠ 17 → R'.1 a = R.1 a := by
  have hq := drw_q hD
  have hrq := drw_rq hD
  refine lpMf (fun n s M => f_X12_draw_77 n (nI u) (nI (cnt (dTk ins su g r q u) s)) (lN (dEnd ins su g r s)) (nI s) M) (fun s M => (∀ j, j < s → M.1 15 j = dTk ins su g r q u j) ∧ (∀ j, 40 ≤ j → M.1 15 j = R.1 15 j) ∧ (∀ j, j < s → dPart ins su g r q (M.1 16) (M.1 17) j) ∧ ∀ a, a ≠ 15 → a ≠ 16 → a ≠ 17 → M.1 a = R.1 a) (fun b => ∃ R', b = some (nI (cnt (dTk ins su g r q u) 40), R') ∧ (∀ j, j < 40 → R'.1 15 j = dTk ins su g r q u j) ∧ (∀ j, 40 ≤ j → R'.1 15 j = R.1 15 j) ∧ (∀ j, j < 40 → dPart ins su g r q (R'.1 16) (R'.1 17) j) ∧ ∀ a, a ≠ 15 → a ≠ 16 → a ≠ 17 → R'.1 a = R.1 a) (c := 40) R (by omega) ⟨fun j hj => absurd hj (by omega), fun _ _ => rfl, fun j hj => absurd hj (by omega), fun _ _ _ _ => rfl⟩ ?_ ?_
  · intro s m M hs hI ih
    obtain ⟨i1, i2, i3, i4⟩ := hI
    have k2 : M.1 0 2 = nI n := by rw [i4 0 (by omega) (by omega) (by omega)]; exact r1
    have k6 : M.1 6 = op := by rw [i4 6 (by omega) (by omega) (by omega)]; exact r2
    have k5 : M.1 5 = wr := by rw [i4 5 (by omega) (by omega) (by omega)]; exact r3
    have k18 : s < n → M.1 18 s = su s := fun h => by rw [i4 18 (by omega) (by omega) (by omega)]; exact r4 s h
    have k23 : M.1 0 23 = nI q := by rw [i4 0 (by omega) (by omega) (by omega)]; exact r5
    have hr40 := hD.2.1
    obtain ⟨d1, d2, d3, d4, d5⟩ := hD.1 s hs
    have hi := hin s hs
    -- what follows once the three rows stand at s
    have fin : ∀ (M2 : mm_M) (p v : Int32) (w : Int64), M2.1 15 = upd (M.1 15) s (dTk ins su g r q u s) → M2.1 16 = upd (M.1 16) s p → M2.1 17 = upd (M.1 17) s v → p = nI (dT ins su g r s / Nat.gcd (dT ins su g r s) (dB ins su q s)) → v = nI (dB ins su q s / Nat.gcd (dT ins su g r s) (dB ins su q s)) → w = lN (dEnd ins su g r (s + 1)) → (∀ a, a ≠ 15 → a ≠ 16 → a ≠ 17 → M2.1 a = M.1 a) → ∃ R', f_X12_draw_77 m (nI u) (nI (cnt (dTk ins su g r q u) (s + 1))) w (nI (s + 1)) M2 = some (nI (cnt (dTk ins su g r q u) 40), R') ∧ (∀ j, j < 40 → R'.1 15 j = dTk ins su g r q u j) ∧ (∀ j, 40 ≤ j → R'.1 15 j = R.1 15 j) ∧ (∀ j, j < 40 → dPart ins su g r q (R'.1 16) (R'.1 17) j) ∧ ∀ a, a ≠ 15 → a ≠ 16 → a ≠ 17 → R'.1 a = R.1 a := by
      intro M2 p v w m1 m2 m3 hp hv hw m4
      rw [hw]
      refine ih M2 ⟨fun j hj => ?_, fun j hj => ?_, fun j hj => ?_, fun z z1 z2 z3 => ?_⟩
      · rw [m1, upd_at]
        by_cases ej : j = s
        · rw [if_pos ej, ej]
        · rw [if_neg ej]
          exact i1 j (by omega)
      · rw [m1, upd_at, if_neg (by omega)]
        exact i2 j hj
      · unfold dPart
        rw [m2, m3, upd_at, upd_at]
        by_cases ej : j = s
        · rw [if_pos ej, if_pos ej, ej]
          exact ⟨hp, hv⟩
        · rw [if_neg ej, if_neg ej]
          exact i3 j (by omega)
      · rw [m4 z z1 z2 z3]
        exact i4 z z1 z2 z3
    show ∃ R', f_X12_draw_77 (m + 1) (nI u) (nI (cnt (dTk ins su g r q u) s)) (lN (dEnd ins su g r s)) (nI s) M = some (nI (cnt (dTk ins su g r q u) 40), R') ∧ _
    unfold f_X12_draw_77 f_X12_draw_321 f_X12_draw_298 f_X12_draw_303
    have q40 : ¬ 40 ≤ s := by omega
    by_cases ei : s < n ∧ ¬ op s = 0
    · have hi1 : ins s = 1 := by rw [hi]; exact if_pos ei
      have hi0 : ¬ ins s = 0 := by rw [hi1]; exact n10
      have o1 : op s = 1 := (rn01 (hop s ei.1)).resolve_left ei.2
      have q41 : ¬ n ≤ s := by omega
      rcases d2 with es | es
      · -- another one
        have eo : ¬ ins s = 0 ∧ su s = 0 := ⟨hi0, es⟩
        have hx := d5 hi0 es
        have hq0 : q ≠ 0 := by omega
        have k22 : M.1 0 22 = nI r := by rw [i4 0 (by omega) (by omega) (by omega)]; exact r6 hq0
        have k := bel_step (dEnd ins su g r s) (u * q) (show 1000 * (r * g s) < 1000 * q by omega)
        rw [← dEnd_y eo] at k
        have l1' := dEnd_le hD (show s + 1 ≤ 40 by omega)
        have l0' := dEnd_le hD (show s ≤ 40 by omega)
        have hrg : r * g s ≤ 40 * 20 := Nat.mul_le_mul hD.2.1 d3
        have huq : u * q ≤ 999 * 800 := Nat.mul_le_mul hu hq
        have hgc : 0 < Nat.gcd (r * g s) q := Nat.gcd_pos_of_pos_right _ (by omega)
        have hgc2 : Nat.gcd (r * g s) q ≤ q := Nat.le_of_dvd (by omega) (Nat.gcd_dvd_right _ _)
        have hT : dT ins su g r s = r * g s := by
          unfold dT drTop
          rw [hi1, es]
          rfl
        have hB : dB ins su q s = q := by
          unfold dB drBel
          rw [hi1, es]
          rfl
        simp (disch := omega) only [mI, let_, bi_, bv_, ckI, clI, nI_leI, nI_ltI, nI_eq, nI_add, add1, ad0, pk_mul, pk_sub, e0, e1, ge0, lt0, le0, gt0, lt1, l2_, l3, l4, l5, l6, l7, l8, l9, l10, l12, l13, l20, l26, l30, l40, l80, l99, l100, l240, l320, l999, l1000, l2000, a11, a01, z01, z00, bz0, bz1, s1, s2, l1, l2, upd_at, Nat.reduceEqDiff, reduceIte, q40, q41, k2, k6, k18 ei.1, es, o1, k22, k23, k5, hg s hs hi0]
        rw [nI_l (by omega), nI_l (by omega), gcd_ok _ (by omega) (by omega)]
        have lk : (1000 : Int64) = lN 1000 := rfl
        simp (disch := omega) only [mI, let_, bi_, bv_, ckI, clI, nI_leI, nI_ltI, nI_eq, nI_add, add1, ad0, pk_mul, pk_sub, e0, e1, ge0, lt0, le0, gt0, lt1, l2_, l3, l4, l5, l6, l7, l8, l9, l10, l12, l13, l20, l26, l30, l40, l80, l99, l100, l240, l320, l999, l1000, l2000, a11, a01, z01, z00, bz0, bz1, s1, s2, l1, l2, upd_at, Nat.reduceEqDiff, reduceIte, k22, k23, k5, hg s hs hi0, lN_i, nz_, pk_div, nI_l, lk, lN_mul, lN_add]
        rw [Nat.mul_assoc 1000 r (g s), ← dEnd_y eo, below_ok _ (by omega) (by omega) (by omega) (by omega), bi_]
        simp (disch := omega) only [mI, let_, bi_, bv_, ckI, clI, nI_leI, nI_ltI, nI_eq, nI_add, add1, ad0, pk_mul, pk_sub, e0, e1, ge0, lt0, le0, gt0, lt1, l2_, l3, l4, l5, l6, l7, l8, l9, l10, l12, l13, l20, l26, l30, l40, l80, l99, l100, l240, l320, l999, l1000, l2000, a11, a01, z01, z00, bz0, bz1, s1, s2, l1, l2, upd_at, Nat.reduceEqDiff, reduceIte, k23, nI_l, lk, lN_mul]
        rw [below_ok _ (by omega) (by omega) (by omega) (by omega), bi_]
        unfold f_X12_draw_319 f_X12_draw_321
        rcases k with ⟨ka, kb⟩ | ⟨ka, kb⟩
        · have t0 : dTk ins su g r q u s = 0 := by
            unfold dTk
            rw [if_pos es, if_neg (by omega)]
          rw [if_pos ((lg_cmp_le _ _).mpr (by rw [kb]; exact Int64.le_refl _))]
          simp (disch := omega) only [mI, let_, bi_, bv_, ckI, clI, nI_leI, nI_ltI, nI_eq, nI_add, add1, ad0, pk_mul, pk_sub, e0, e1, ge0, lt0, le0, gt0, lt1, l2_, l3, l4, l5, l6, l7, l8, l9, l10, l12, l13, l20, l26, l30, l40, l80, l99, l100, l240, l320, l999, l1000, l2000, a11, a01, z01, z00, bz0, bz1, s1, s2, l1, l2, upd_at, Nat.reduceEqDiff, reduceIte]
          rw [show cnt (dTk ins su g r q u) s = cnt (dTk ins su g r q u) (s + 1) from (cnt_z t0).symm]
          refine fin _ _ _ _ ?_ ?_ ?_ (by rw [hT, hB]) (by rw [hT, hB]) rfl (fun z z1 z2 z3 => by simp only [s1, s2, l1, l2, upd_at, Nat.reduceEqDiff, reduceIte, z1, z2, z3])
          · simp only [s1, s2, l1, l2, upd_at, Nat.reduceEqDiff, reduceIte, t0]
            funext j
            unfold upd
            split <;> rfl
          · simp only [s1, s2, l1, l2, upd_at, Nat.reduceEqDiff, reduceIte]
            funext j
            unfold upd
            split <;> rfl
          · simp only [s1, s2, l1, l2, upd_at, Nat.reduceEqDiff, reduceIte]
            funext j
            unfold upd
            split <;> rfl
        · have t1 : dTk ins su g r q u s = 1 := by
            unfold dTk
            rw [if_pos es, if_pos ⟨hi0, by omega⟩]
          have hbl : bel (dEnd ins su g r s) (u * q) (1000 * q) < 2 ^ 60 := by
            have := dPt_le hD hu (show s ≤ 40 by omega)
            have b0 : bel (dEnd ins su g r s) (u * q) (1000 * q) ≤ 1000 * q * bel (dEnd ins su g r s) (u * q) (1000 * q) := Nat.le_mul_of_pos_left _ (by omega)
            omega
          rw [if_neg (fun z => by have := (pk_lLE (by omega) (by omega)).mp ((lg_cmp_le _ _).mp z); omega)]
          have c1 : ¬ (dTk ins su g r q u s) = 0 := by rw [t1]; exact n10
          simp (disch := omega) only [mI, let_, bi_, bv_, ckI, clI, nI_leI, nI_ltI, nI_eq, nI_add, add1, ad0, pk_mul, pk_sub, e0, e1, ge0, lt0, le0, gt0, lt1, l2_, l3, l4, l5, l6, l7, l8, l9, l10, l12, l13, l20, l26, l30, l40, l80, l99, l100, l240, l320, l999, l1000, l2000, a11, a01, z01, z00, bz0, bz1, s1, s2, l1, l2, upd_at, Nat.reduceEqDiff, reduceIte]
          rw [← cnt_nz c1]
          refine fin _ _ _ _ ?_ ?_ ?_ (by rw [hT, hB]) (by rw [hT, hB]) rfl (fun z z1 z2 z3 => by simp only [s1, s2, l1, l2, upd_at, Nat.reduceEqDiff, reduceIte, z1, z2, z3])
          · simp only [s1, s2, l1, l2, upd_at, Nat.reduceEqDiff, reduceIte, t1]
            funext j
            unfold upd
            split <;> rfl
          · simp only [s1, s2, l1, l2, upd_at, Nat.reduceEqDiff, reduceIte]
            funext j
            unfold upd
            split <;> rfl
          · simp only [s1, s2, l1, l2, upd_at, Nat.reduceEqDiff, reduceIte]
            funext j
            unfold upd
            split <;> rfl
      · have eo : ¬ (¬ ins s = 0 ∧ su s = 0) := fun z => by rw [es] at z; exact n10 z.2
        have t1 : dTk ins su g r q u s = 1 := by
          unfold dTk
          rw [es, if_neg n10]
        have c1 : ¬ (dTk ins su g r q u s) = 0 := by rw [t1]; exact n10
        have g0 : dT ins su g r s = 1 ∧ dB ins su q s = 1 := by
          unfold dT dB drTop drBel
          rw [hi1, es]
          exact ⟨rfl, rfl⟩
        simp (disch := omega) only [mI, let_, bi_, bv_, ckI, clI, nI_leI, nI_ltI, nI_eq, nI_add, add1, ad0, pk_mul, pk_sub, e0, e1, ge0, lt0, le0, gt0, lt1, l2_, l3, l4, l5, l6, l7, l8, l9, l10, l12, l13, l20, l26, l30, l40, l80, l99, l100, l240, l320, l999, l1000, l2000, a11, a01, z01, z00, bz0, bz1, s1, s2, l1, l2, upd_at, Nat.reduceEqDiff, reduceIte, q40, q41, k2, k6, k18 ei.1, es, o1]
        unfold f_X12_draw_319 f_X12_draw_321
        simp (disch := omega) only [mI, let_, bi_, bv_, ckI, clI, nI_leI, nI_ltI, nI_eq, nI_add, add1, ad0, pk_mul, pk_sub, e0, e1, ge0, lt0, le0, gt0, lt1, l2_, l3, l4, l5, l6, l7, l8, l9, l10, l12, l13, l20, l26, l30, l40, l80, l99, l100, l240, l320, l999, l1000, l2000, a11, a01, z01, z00, bz0, bz1, s1, s2, l1, l2, upd_at, Nat.reduceEqDiff, reduceIte]
        rw [← cnt_nz c1]
        refine fin _ 1 1 _ ?_ ?_ ?_ ?_ ?_ (by rw [dEnd_n eo]) (fun z z1 z2 z3 => by simp only [s1, s2, l1, l2, upd_at, Nat.reduceEqDiff, reduceIte, z1, z2, z3])
        · simp only [s1, s2, l1, l2, upd_at, Nat.reduceEqDiff, reduceIte, t1]
          funext j
          unfold upd
          split <;> rfl
        · simp only [s1, s2, l1, l2, upd_at, Nat.reduceEqDiff, reduceIte]
          funext j
          unfold upd
          split <;> rfl
        · simp only [s1, s2, l1, l2, upd_at, Nat.reduceEqDiff, reduceIte]
        · rw [g0.1, g0.2]
          rfl
        · rw [g0.1, g0.2]
          rfl
    · have hi0 : ins s = 0 := by rw [hi]; exact if_neg ei
      have eo : ¬ (¬ ins s = 0 ∧ su s = 0) := fun z => z.1 hi0
      have hs0 := d4 hi0
      have t0 : dTk ins su g r q u s = 0 := by
        unfold dTk
        rw [if_pos hs0, if_neg (fun z => z.1 hi0)]
      have g0 : dT ins su g r s = 0 ∧ dB ins su q s = 1 := by
        unfold dT dB drTop drBel
        rw [hi0]
        exact ⟨rfl, rfl⟩
      have out : ∃ R', f_X12_draw_77 m (nI u) (nI (cnt (dTk ins su g r q u) s)) (lN (dEnd ins su g r s)) (nI (s + 1)) (sI (sI (sI M 15 s 0) 16 s 0) 17 s 1) = some (nI (cnt (dTk ins su g r q u) 40), R') ∧ (∀ j, j < 40 → R'.1 15 j = dTk ins su g r q u j) ∧ (∀ j, 40 ≤ j → R'.1 15 j = R.1 15 j) ∧ (∀ j, j < 40 → dPart ins su g r q (R'.1 16) (R'.1 17) j) ∧ ∀ a, a ≠ 15 → a ≠ 16 → a ≠ 17 → R'.1 a = R.1 a := by
        have f := fin (sI (sI (sI M 15 s 0) 16 s 0) 17 s 1) 0 1 (lN (dEnd ins su g r s)) (by simp only [s1, s2, l1, l2, upd_at, Nat.reduceEqDiff, reduceIte, t0]) (by simp only [s1, s2, l1, l2, upd_at, Nat.reduceEqDiff, reduceIte]) (by simp only [s1, s2, l1, l2, upd_at, Nat.reduceEqDiff, reduceIte]) (by rw [g0.1, g0.2]; rfl) (by rw [g0.1, g0.2]; rfl) (by rw [dEnd_n eo]) (fun z z1 z2 z3 => by simp only [s1, s2, l1, l2, upd_at, Nat.reduceEqDiff, reduceIte, z1, z2, z3])
        rw [cnt_z t0] at f
        exact f
      by_cases en : s < n
      · have q41 : ¬ n ≤ s := by omega
        have o0 : op s = 0 := Decidable.not_not.mp (fun z => ei ⟨en, z⟩)
        simp (disch := omega) only [mI, let_, bi_, bv_, ckI, clI, nI_leI, nI_ltI, nI_eq, nI_add, add1, ad0, pk_mul, pk_sub, e0, e1, ge0, lt0, le0, gt0, lt1, l2_, l3, l4, l5, l6, l7, l8, l9, l10, l12, l13, l20, l26, l30, l40, l80, l99, l100, l240, l320, l999, l1000, l2000, a11, a01, z01, z00, bz0, bz1, s1, s2, l1, l2, upd_at, Nat.reduceEqDiff, reduceIte, q40, q41, k2, k6, o0]
        exact out
      · have q41 : n ≤ s := by omega
        simp (disch := omega) only [mI, let_, bi_, bv_, ckI, clI, nI_leI, nI_ltI, nI_eq, nI_add, add1, ad0, pk_mul, pk_sub, e0, e1, ge0, lt0, le0, gt0, lt1, l2_, l3, l4, l5, l6, l7, l8, l9, l10, l12, l13, l20, l26, l30, l40, l80, l99, l100, l240, l320, l999, l1000, l2000, a11, a01, z01, z00, bz0, bz1, s1, s2, l1, l2, upd_at, Nat.reduceEqDiff, reduceIte, q40, q41, k2, k6]
        exact out
  · intro m M hI
    show ∃ C', f_X12_draw_77 (m + 1) _ _ _ (nI 40) M = some (nI (cnt (dTk ins su g r q u) 40), C') ∧ _
    unfold f_X12_draw_77
    rw [if_pos (show (40 : Int32) ≤ nI 40 by decide +kernel)]
    exact ⟨M, rfl, hI⟩

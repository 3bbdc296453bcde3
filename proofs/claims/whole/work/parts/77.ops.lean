/-! the reference's facts -/
def vcF (dc ch sh : Nat → Int32) (c s : Int32) : Nat → Nat
  | 0 => 0
  | i + 1 => vcF dc ch sh c s i + if ¬ dc i = 0 ∧ ch i = c ∧ sh i = s then 1 else 0
theorem vcF_le (dc ch sh : Nat → Int32) (c s : Int32) : ∀ i, vcF dc ch sh c s i ≤ i := by
  intro i
  induction i with
  | zero => exact Nat.le_refl _
  | succ i ih =>
    unfold vcF
    split <;> omega
theorem vcF_eq {dc ch sh dc' ch' sh' : Nat → Int32} {c s : Int32} : ∀ {i : Nat}, (∀ j, j < i → dc' j = dc j ∧ ch' j = ch j ∧ sh' j = sh j) → vcF dc' ch' sh' c s i = vcF dc ch sh c s i := by
  intro i
  induction i with
  | zero => exact fun _ => rfl
  | succ i ih =>
    intro h
    unfold vcF
    obtain ⟨h1, h2, h3⟩ := h i (by omega)
    rw [ih (fun j hj => h j (by omega)), h1, h2, h3]
theorem ax_2 (a : Nat) : nI a + (2 : Int32) = nI (a + 2) := nI_add a 2
theorem ax_3 (a : Nat) : nI a + (3 : Int32) = nI (a + 3) := nI_add a 3
theorem ax_4 (a : Nat) : nI a + (4 : Int32) = nI (a + 4) := nI_add a 4
theorem ax_5 (a : Nat) : nI a + (5 : Int32) = nI (a + 5) := nI_add a 5
theorem ax_6 (a : Nat) : nI a + (6 : Int32) = nI (a + 6) := nI_add a 6
theorem ax_7 (a : Nat) : nI a + (7 : Int32) = nI (a + 7) := nI_add a 7
theorem ax_8 (a : Nat) : nI a + (8 : Int32) = nI (a + 8) := nI_add a 8
theorem ax_9 (a : Nat) : nI a + (9 : Int32) = nI (a + 9) := nI_add a 9
theorem ax_10 (a : Nat) : nI a + (10 : Int32) = nI (a + 10) := nI_add a 10
theorem ax_11 (a : Nat) : nI a + (11 : Int32) = nI (a + 11) := nI_add a 11
theorem ax_12 (a : Nat) : nI a + (12 : Int32) = nI (a + 12) := nI_add a 12
theorem ax13 (j : Nat) : (13 : Int32) * nI j = nI (13 * j) := pk_mul 13 j
theorem ff21 {R : mm_M} {j c s : Nat} (hj : j < 100) (t1 : R.1 28 j = nI s) (x2 x4 : Int32) (K : Int32 → Int32 → Int32 → Int32 → Int32 → mm_M → Option mm_M) : f_X12_findFacts_21 K mm_fu (nI j) x2 (nI c) x4 (nI 0) (nI 0) R = K (nI j) x2 (nI c) x4 (nI (vcF (R.1 35) (R.1 29) (R.1 28) (nI c) (nI s) j)) R := by
  refine lpf (fun n i => f_X12_findFacts_21 K n (nI j) x2 (nI c) x4 (nI (vcF (R.1 35) (R.1 29) (R.1 28) (nI c) (nI s) i)) (nI i) R) (c := j) (by omega) ?_ ?_
  · intro i m hi
    show f_X12_findFacts_21 K (m + 1) _ _ _ _ _ _ _ = f_X12_findFacts_21 K m _ _ _ _ _ _ _
    have hv : vcF (R.1 35) (R.1 29) (R.1 28) (nI c) (nI s) (i + 1) = vcF (R.1 35) (R.1 29) (R.1 28) (nI c) (nI s) i + if ¬ R.1 35 i = 0 ∧ R.1 29 i = nI c ∧ R.1 28 i = nI s then 1 else 0 := rfl
    conv => lhs; unfold f_X12_findFacts_21 f_X12_findFacts_70 f_X12_findFacts_71
    rw [if_neg (nI_ge hi (by omega))]
    simp (disch := omega) only [mI, let_, bi_, bv_, ckI, clI, s1, s2, l1, l2, upd_at, Nat.reduceEqDiff, reduceIte, add1, ax13, ax_2, ax_3, ax_4, ax_5, ax_6, ax_7, ax_8, ax_9, ax_10, ax_11, ax_12, t1]
    by_cases a : R.1 35 i = 0
    · rw [if_pos a]
      rw [if_neg (fun z => z.1 a)] at hv
      rw [hv, ad0]
      rfl
    · rw [if_neg a]
      by_cases b : R.1 29 i = nI c
      · rw [if_pos b]
        by_cases d : R.1 28 i = nI s
        · rw [if_pos d]
          rw [if_pos ⟨a, b, d⟩] at hv
          rw [hv]
        · rw [if_neg d]
          rw [if_neg (fun z => d z.2.2)] at hv
          rw [hv, ad0]
          rfl
      · rw [if_neg b]
        rw [if_neg (fun z => b z.2.1)] at hv
        rw [hv, ad0]
        rfl
  · intro m
    show f_X12_findFacts_21 K (m + 1) _ _ _ _ _ (nI j) _ = _
    unfold f_X12_findFacts_21
    rw [if_pos (nI_le (by omega) (by omega))]
theorem ff351 {M : mm_M} {j : Nat} (hj : j < 100) : ∃ M', f_X12_findFacts_351 mm_fu (nI (13 * j)) (nI 0) M = some M' ∧ (∀ k, k < 13 → M'.1 25 k = M.1 38 (13 * j + k)) ∧ ∀ a, a ≠ 25 → M'.1 a = M.1 a := by
  refine lpMf (fun n s X => f_X12_findFacts_351 n (nI (13 * j)) (nI s) X) (fun s X => (∀ k, k < s → X.1 25 k = M.1 38 (13 * j + k)) ∧ ∀ a, a ≠ 25 → X.1 a = M.1 a) (fun b => ∃ M', b = some M' ∧ (∀ k, k < 13 → M'.1 25 k = M.1 38 (13 * j + k)) ∧ ∀ a, a ≠ 25 → M'.1 a = M.1 a) (c := 13) M (by omega) ⟨fun k hk => absurd hk (by omega), fun _ _ => rfl⟩ ?_ ?_
  · intro s m X hs hI ih
    obtain ⟨i1, i2⟩ := hI
    have k38 : X.1 38 = M.1 38 := i2 38 (by omega)
    show ∃ M', f_X12_findFacts_351 (m + 1) (nI (13 * j)) (nI s) X = some M' ∧ _
    unfold f_X12_findFacts_351
    rw [if_neg (show ¬ (13 : Int32) ≤ nI s from nI_ge (b := 13) hs (by decide))]
    simp (disch := omega) only [mI, let_, bi_, bv_, ckI, clI, s1, s2, l1, l2, upd_at, Nat.reduceEqDiff, reduceIte, add1, ax13, ax_2, ax_3, ax_4, ax_5, ax_6, ax_7, ax_8, ax_9, ax_10, ax_11, ax_12, nI_add, k38]
    refine ih _ ⟨fun k hk => ?_, fun a ha => ?_⟩
    · simp (disch := omega) only [mI, let_, bi_, bv_, ckI, clI, s1, s2, l1, l2, upd_at, Nat.reduceEqDiff, reduceIte, add1, ax13, ax_2, ax_3, ax_4, ax_5, ax_6, ax_7, ax_8, ax_9, ax_10, ax_11, ax_12]
      by_cases e : k = s
      · rw [if_pos e, e]
      · rw [if_neg e]
        exact i1 k (by omega)
    · simp (disch := omega) only [mI, let_, bi_, bv_, ckI, clI, s1, s2, l1, l2, upd_at, Nat.reduceEqDiff, reduceIte, add1, ax13, ax_2, ax_3, ax_4, ax_5, ax_6, ax_7, ax_8, ax_9, ax_10, ax_11, ax_12, ha]
      exact i2 a ha
  · intro m X hI
    show ∃ M', f_X12_findFacts_351 (m + 1) (nI (13 * j)) (nI 13) X = some M' ∧ _
    unfold f_X12_findFacts_351
    rw [if_pos (show (13 : Int32) ≤ nI 13 by decide +kernel)]
    exact ⟨X, rfl, hI⟩
theorem ff347 {M : mm_M} {j : Nat} (hj : j < 100) (v : Int32) : ∃ M', f_X12_findFacts_347 (nI (13 * j)) (nI (13 * j + 12)) v M = some M' ∧ (∀ k, k < 13 → M'.1 25 k = M'.1 38 (13 * j + k)) ∧ M'.1 38 = upd (M.1 38) (13 * j + 12) v ∧ ∀ a, a ≠ 25 → a ≠ 38 → M'.1 a = M.1 a := by
  unfold f_X12_findFacts_347
  simp (disch := omega) only [mI, let_, bi_, bv_, ckI, clI, s1, s2, l1, l2, upd_at, Nat.reduceEqDiff, reduceIte, add1, ax13, ax_2, ax_3, ax_4, ax_5, ax_6, ax_7, ax_8, ax_9, ax_10, ax_11, ax_12]
  obtain ⟨M', g1, g2, g3⟩ := ff351 (M := sI M 38 (13 * j + 12) v) hj
  refine ⟨M', g1, fun k hk => ?_, ?_, fun a a1 a2 => ?_⟩
  · rw [g2 k hk, g3 38 (by omega)]
  · rw [g3 38 (by omega)]
    simp only [s1, s2, l1, l2, upd_at, Nat.reduceEqDiff, reduceIte]
  · rw [g3 a a1]
    simp only [s1, s2, l1, l2, upd_at, Nat.reduceEqDiff, reduceIte, a2]
theorem ff277 {j q : Nat} (hj : j < 100) (hq : q < 240) (y v : Int32) (M : mm_M) : f_X12_findFacts_277 (nI j) (nI q) y (nI (13 * j)) (nI (13 * j + 9)) v M = f_X12_findFacts_347 (nI (13 * j)) (nI (13 * j + 12)) (if M.1 39 q = 0 then 99 else (y - M.1 40 q) / 30) (sI (sI (sI M 38 (13 * j + 9) v) 38 (13 * j + 10) (M.1 32 j / 4)) 38 (13 * j + 11) (M.1 39 q)) := by
  unfold f_X12_findFacts_277
  simp (disch := omega) only [mI, let_, bi_, bv_, ckI, clI, s1, s2, l1, l2, upd_at, Nat.reduceEqDiff, reduceIte, add1, ax13, ax_2, ax_3, ax_4, ax_5, ax_6, ax_7, ax_8, ax_9, ax_10, ax_11, ax_12]
  by_cases e : M.1 39 q = 0
  · rw [if_pos e, if_pos e]
  · rw [if_neg e, if_neg e]
theorem ff211 {j q : Nat} (hj : j < 100) (hq : q < 240) (y v : Int32) (M : mm_M) : f_X12_findFacts_211 (nI j) (nI q) y (nI (13 * j)) (nI (13 * j + 6)) v M = f_X12_findFacts_347 (nI (13 * j)) (nI (13 * j + 12)) (if M.1 39 q = 0 then 99 else (y - M.1 40 q) / 30) (sI (sI (sI (sI (sI (sI M 38 (13 * j + 6) v) 38 (13 * j + 7) (M.1 41 q)) 38 (13 * j + 8) (M.1 42 q)) 38 (13 * j + 9) (if M.1 41 q = 0 then 999 else y - M.1 43 q)) 38 (13 * j + 10) (M.1 32 j / 4)) 38 (13 * j + 11) (M.1 39 q)) := by
  unfold f_X12_findFacts_211
  simp (disch := omega) only [mI, let_, bi_, bv_, ckI, clI, s1, s2, l1, l2, upd_at, Nat.reduceEqDiff, reduceIte, add1, ax13, ax_2, ax_3, ax_4, ax_5, ax_6, ax_7, ax_8, ax_9, ax_10, ax_11, ax_12]
  by_cases e : M.1 41 q = 0
  · rw [if_pos e, if_pos e, ff277 hj hq]
    simp (disch := omega) only [mI, let_, bi_, bv_, ckI, clI, s1, s2, l1, l2, upd_at, Nat.reduceEqDiff, reduceIte, add1, ax13, ax_2, ax_3, ax_4, ax_5, ax_6, ax_7, ax_8, ax_9, ax_10, ax_11, ax_12]
  · rw [if_neg e, if_neg e, ff277 hj hq]
    simp (disch := omega) only [mI, let_, bi_, bv_, ckI, clI, s1, s2, l1, l2, upd_at, Nat.reduceEqDiff, reduceIte, add1, ax13, ax_2, ax_3, ax_4, ax_5, ax_6, ax_7, ax_8, ax_9, ax_10, ax_11, ax_12]
theorem facts_ok {R : mm_M} {j s c e q b k : Nat} (hj : j < 100) (hs : s < 40) (hc : c < 8) (hq : q < 240) (t1 : R.1 28 j = nI s) (t2 : R.1 29 j = nI c) (t3 : R.1 30 j = nI e) (t4 : R.1 32 j = nI b) (hk : R.1 11 c = nI k) (hk2 : k ≤ 12) : ∃ R1, f_X12_findFacts (nI j) (nI q) R = some R1 ∧ (∀ a, a ≠ 25 → a ≠ 38 → R1.1 a = R.1 a) ∧ (∀ x, (x < 13 * j ∨ 13 * j + 13 ≤ x) → R1.1 38 x = R.1 38 x) ∧ (∀ k, k < 13 → R1.1 25 k = R1.1 38 (13 * j + k)) ∧ R1.1 25 0 = (nI e - R.1 10 c) / 365 ∧ R1.1 25 1 = lookOf (R.1 12) (R.1 11) (R.1 10) c (nI e) k ∧ R1.1 25 2 = (nI b &&& 2) / 2 ∧ R1.1 25 3 = (nI b &&& 1) ∧ R1.1 25 4 = R.1 31 j ∧ R1.1 25 5 = nI (vcF (R.1 35) (R.1 29) (R.1 28) (nI c) (nI s) j) ∧ R1.1 25 6 = (if R.1 13 (40 * c + s) = 0 then 0 else 1) ∧ R1.1 25 7 = R.1 41 q ∧ R1.1 25 8 = R.1 42 q ∧ R1.1 25 9 = (if R.1 41 q = 0 then 999 else nI e - R.1 43 q) ∧ R1.1 25 10 = nI b / 4 ∧ R1.1 25 11 = R.1 39 q ∧ R1.1 25 12 = (if R.1 39 q = 0 then 99 else (nI e - R.1 40 q) / 30) := by
  have fin : ∀ (v : Int32) (M : mm_M), M = sI (sI (sI (sI (sI (sI R 38 (13 * j) ((nI e - R.1 10 c) / 365)) 38 (13 * j + 1) (lookOf (R.1 12) (R.1 11) (R.1 10) c (nI e) k)) 38 (13 * j + 2) ((nI b &&& 2) / 2)) 38 (13 * j + 3) (nI b &&& 1)) 38 (13 * j + 4) (R.1 31 j)) 38 (13 * j + 5) (nI (vcF (R.1 35) (R.1 29) (R.1 28) (nI c) (nI s) j)) → v = (if R.1 13 (40 * c + s) = 0 then 0 else 1) → ∃ R1, f_X12_findFacts_211 (nI j) (nI q) (nI e) (nI (13 * j)) (nI (13 * j + 6)) v M = some R1 ∧ (∀ a, a ≠ 25 → a ≠ 38 → R1.1 a = R.1 a) ∧ (∀ x, (x < 13 * j ∨ 13 * j + 13 ≤ x) → R1.1 38 x = R.1 38 x) ∧ (∀ k, k < 13 → R1.1 25 k = R1.1 38 (13 * j + k)) ∧ R1.1 25 0 = (nI e - R.1 10 c) / 365 ∧ R1.1 25 1 = lookOf (R.1 12) (R.1 11) (R.1 10) c (nI e) k ∧ R1.1 25 2 = (nI b &&& 2) / 2 ∧ R1.1 25 3 = (nI b &&& 1) ∧ R1.1 25 4 = R.1 31 j ∧ R1.1 25 5 = nI (vcF (R.1 35) (R.1 29) (R.1 28) (nI c) (nI s) j) ∧ R1.1 25 6 = (if R.1 13 (40 * c + s) = 0 then 0 else 1) ∧ R1.1 25 7 = R.1 41 q ∧ R1.1 25 8 = R.1 42 q ∧ R1.1 25 9 = (if R.1 41 q = 0 then 999 else nI e - R.1 43 q) ∧ R1.1 25 10 = nI b / 4 ∧ R1.1 25 11 = R.1 39 q ∧ R1.1 25 12 = (if R.1 39 q = 0 then 99 else (nI e - R.1 40 q) / 30) := by
    intro v M hM hv
    rw [ff211 hj hq]
    obtain ⟨M', g1, g2, g3, g4⟩ := ff347 (j := j) hj (if M.1 39 q = 0 then 99 else (nI e - M.1 40 q) / 30) (M := sI (sI (sI (sI (sI (sI M 38 (13 * j + 6) v) 38 (13 * j + 7) (M.1 41 q)) 38 (13 * j + 8) (M.1 42 q)) 38 (13 * j + 9) (if M.1 41 q = 0 then 999 else nI e - M.1 43 q)) 38 (13 * j + 10) (M.1 32 j / 4)) 38 (13 * j + 11) (M.1 39 q))
    have km : ∀ a, a ≠ 38 → M.1 a = R.1 a := fun a ha => by
      rw [hM]
      simp only [s1, s2, l1, l2, upd_at, Nat.reduceEqDiff, reduceIte, ha]
    rw [km 39 (by omega), km 40 (by omega), km 41 (by omega), km 42 (by omega), km 43 (by omega), km 32 (by omega), t4] at g1 g3
    rw [km 39 (by omega), km 40 (by omega), km 41 (by omega), km 42 (by omega), km 43 (by omega), km 32 (by omega), t4]
    refine ⟨M', g1, fun a a1 a2 => ?_, fun x hx => ?_, g2, ?_⟩
    · rw [g4 a a1 a2]
      simp only [s1, s2, l1, l2, upd_at, Nat.reduceEqDiff, reduceIte, a2]
      exact km a a2
    · rw [g3]
      have n0 : x ≠ 13 * j := by omega
      have n1 : x ≠ 13 * j + 1 := by omega
      have n2 : x ≠ 13 * j + 2 := by omega
      have n3 : x ≠ 13 * j + 3 := by omega
      have n4 : x ≠ 13 * j + 4 := by omega
      have n5 : x ≠ 13 * j + 5 := by omega
      have n6 : x ≠ 13 * j + 6 := by omega
      have n7 : x ≠ 13 * j + 7 := by omega
      have n8 : x ≠ 13 * j + 8 := by omega
      have n9 : x ≠ 13 * j + 9 := by omega
      have na : x ≠ 13 * j + 10 := by omega
      have nb : x ≠ 13 * j + 11 := by omega
      have nc : x ≠ 13 * j + 12 := by omega
      rw [hM]
      simp only [s1, s2, l1, l2, upd_at, Nat.reduceEqDiff, reduceIte, n0, n1, n2, n3, n4, n5, n6, n7, n8, n9, na, nb, nc]
    · rw [g2 0 (by omega), g2 1 (by omega), g2 2 (by omega), g2 3 (by omega), g2 4 (by omega), g2 5 (by omega), g2 6 (by omega), g2 7 (by omega), g2 8 (by omega), g2 9 (by omega), g2 10 (by omega), g2 11 (by omega), g2 12 (by omega), g3, hM]
      simp only [s1, s2, l1, l2, upd_at, Nat.reduceEqDiff, reduceIte, Nat.add_zero, Nat.add_eq_left, Nat.reduceEqDiff, Nat.left_eq_add]
      exact ⟨trivial, trivial, trivial, trivial, trivial, trivial, hv, trivial, trivial, trivial, trivial, trivial, trivial⟩
  unfold f_X12_findFacts
  simp (disch := omega) only [mI, let_, bi_, bv_, ckI, clI, s1, s2, l1, l2, upd_at, Nat.reduceEqDiff, reduceIte, add1, ax13, ax_2, ax_3, ax_4, ax_5, ax_6, ax_7, ax_8, ax_9, ax_10, ax_11, ax_12, t2, t3]
  rw [show f_X12_findFacts_21 f_X12_findFacts_80 mm_fu (nI j) (nI q) (nI c) (nI e) 0 0 R = _ from ff21 hj t1 (nI q) (nI e) f_X12_findFacts_80]
  unfold f_X12_findFacts_80
  simp (disch := omega) only [mI, let_, bi_, bv_, ckI, clI, s1, s2, l1, l2, upd_at, Nat.reduceEqDiff, reduceIte, add1, ax13, ax_2, ax_3, ax_4, ax_5, ax_6, ax_7, ax_8, ax_9, ax_10, ax_11, ax_12]
  rw [age_r hc, bi_]
  try simp (disch := omega) only [mI, let_, bi_, bv_, ckI, clI, s1, s2, l1, l2, upd_at, Nat.reduceEqDiff, reduceIte, add1, ax13, ax_2, ax_3, ax_4, ax_5, ax_6, ax_7, ax_8, ax_9, ax_10, ax_11, ax_12]
  rw [looks_r (k := k) hc (nI e) (by simp only [s1, s2, l1, l2, upd_at, Nat.reduceEqDiff, reduceIte]; exact hk) hk2, bi_]
  try simp (disch := omega) only [mI, let_, bi_, bv_, ckI, clI, s1, s2, l1, l2, upd_at, Nat.reduceEqDiff, reduceIte, add1, ax13, ax_2, ax_3, ax_4, ax_5, ax_6, ax_7, ax_8, ax_9, ax_10, ax_11, ax_12]
  have x40 : (40 : Int32) * nI c + nI s = nI (40 * c + s) := by rw [l40, pk_mul, nI_add]
  simp (disch := omega) only [mI, let_, bi_, bv_, ckI, clI, s1, s2, l1, l2, upd_at, Nat.reduceEqDiff, reduceIte, add1, ax13, ax_2, ax_3, ax_4, ax_5, ax_6, ax_7, ax_8, ax_9, ax_10, ax_11, ax_12, t1, t4, x40]
  by_cases z : R.1 13 (40 * c + s) = 0
  · rw [if_pos z]
    refine fin 0 _ rfl ?_
    rw [if_pos z]
  · rw [if_neg z]
    refine fin 1 _ rfl ?_
    rw [if_neg z]

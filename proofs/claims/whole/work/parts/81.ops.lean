theorem fill_18 (M : mm_M) (v : Int32) : ∃ M', f_J7_fill_53178_18 v M = some M' ∧ (∀ j, j < 100 → M'.1 18 j = v) ∧ ∀ a, a ≠ 18 → M'.1 a = M.1 a := by
  unfold f_J7_fill_53178_18
  refine lpMf (fun n s X => f_J7_fill_53178_18_5 n v (nI s) 100 X) (fun s X => (∀ j, j < s → X.1 18 j = v) ∧ ∀ a, a ≠ 18 → X.1 a = M.1 a) (fun b => ∃ M', b = some M' ∧ (∀ j, j < 100 → M'.1 18 j = v) ∧ ∀ a, a ≠ 18 → M'.1 a = M.1 a) (c := 100) M (by omega) ⟨fun j hj => absurd hj (by omega), fun _ _ => rfl⟩ ?_ ?_
  · intro s m X hs hI ih
    show ∃ M', f_J7_fill_53178_18_5 (m + 1) v (nI s) 100 X = some M' ∧ _
    unfold f_J7_fill_53178_18_5
    rw [if_neg (show ¬ (100 : Int32) ≤ nI s from nI_ge (b := 100) hs (by omega))]
    simp (disch := omega) only [mI, let_, bi_, bv_, ckI, clI, s1, s2, l1, l2, upd_at, Nat.reduceEqDiff, reduceIte, add1, ax13, ax_2, ax_3, ax_4, ax_5, ax_6, ax_7, ax_8, ax_9, ax_10, ax_11, ax_12]
    refine ih _ ⟨fun j hj => ?_, fun a ha => ?_⟩
    · simp (disch := omega) only [mI, let_, bi_, bv_, ckI, clI, s1, s2, l1, l2, upd_at, Nat.reduceEqDiff, reduceIte, add1, ax13, ax_2, ax_3, ax_4, ax_5, ax_6, ax_7, ax_8, ax_9, ax_10, ax_11, ax_12]
      by_cases e : j = s
      · rw [if_pos e]
      · rw [if_neg e]
        exact hI.1 j (by omega)
    · simp (disch := omega) only [mI, let_, bi_, bv_, ckI, clI, s1, s2, l1, l2, upd_at, Nat.reduceEqDiff, reduceIte, add1, ax13, ax_2, ax_3, ax_4, ax_5, ax_6, ax_7, ax_8, ax_9, ax_10, ax_11, ax_12, ha]
      exact hI.2 a ha
  · intro m X hI
    show ∃ M', f_J7_fill_53178_18_5 (m + 1) v (nI 100) 100 X = some M' ∧ _
    unfold f_J7_fill_53178_18_5
    rw [if_pos (show (100 : Int32) ≤ nI 100 by decide +kernel)]
    exact ⟨X, rfl, hI⟩
theorem fill_20 (M : mm_M) (v : Int32) : ∃ M', f_J7_fill_53178_20 v M = some M' ∧ (∀ j, j < 320 → M'.1 20 j = v) ∧ ∀ a, a ≠ 20 → M'.1 a = M.1 a := by
  unfold f_J7_fill_53178_20
  refine lpMf (fun n s X => f_J7_fill_53178_20_5 n v (nI s) 320 X) (fun s X => (∀ j, j < s → X.1 20 j = v) ∧ ∀ a, a ≠ 20 → X.1 a = M.1 a) (fun b => ∃ M', b = some M' ∧ (∀ j, j < 320 → M'.1 20 j = v) ∧ ∀ a, a ≠ 20 → M'.1 a = M.1 a) (c := 320) M (by omega) ⟨fun j hj => absurd hj (by omega), fun _ _ => rfl⟩ ?_ ?_
  · intro s m X hs hI ih
    show ∃ M', f_J7_fill_53178_20_5 (m + 1) v (nI s) 320 X = some M' ∧ _
    unfold f_J7_fill_53178_20_5
    rw [if_neg (show ¬ (320 : Int32) ≤ nI s from nI_ge (b := 320) hs (by omega))]
    simp (disch := omega) only [mI, let_, bi_, bv_, ckI, clI, s1, s2, l1, l2, upd_at, Nat.reduceEqDiff, reduceIte, add1, ax13, ax_2, ax_3, ax_4, ax_5, ax_6, ax_7, ax_8, ax_9, ax_10, ax_11, ax_12]
    refine ih _ ⟨fun j hj => ?_, fun a ha => ?_⟩
    · simp (disch := omega) only [mI, let_, bi_, bv_, ckI, clI, s1, s2, l1, l2, upd_at, Nat.reduceEqDiff, reduceIte, add1, ax13, ax_2, ax_3, ax_4, ax_5, ax_6, ax_7, ax_8, ax_9, ax_10, ax_11, ax_12]
      by_cases e : j = s
      · rw [if_pos e]
      · rw [if_neg e]
        exact hI.1 j (by omega)
    · simp (disch := omega) only [mI, let_, bi_, bv_, ckI, clI, s1, s2, l1, l2, upd_at, Nat.reduceEqDiff, reduceIte, add1, ax13, ax_2, ax_3, ax_4, ax_5, ax_6, ax_7, ax_8, ax_9, ax_10, ax_11, ax_12, ha]
      exact hI.2 a ha
  · intro m X hI
    show ∃ M', f_J7_fill_53178_20_5 (m + 1) v (nI 320) 320 X = some M' ∧ _
    unfold f_J7_fill_53178_20_5
    rw [if_pos (show (320 : Int32) ≤ nI 320 by decide +kernel)]
    exact ⟨X, rfl, hI⟩
theorem fill_21 (M : mm_M) (v : Int32) : ∃ M', f_J7_fill_53178_21 v M = some M' ∧ (∀ j, j < 240 → M'.1 21 j = v) ∧ ∀ a, a ≠ 21 → M'.1 a = M.1 a := by
  unfold f_J7_fill_53178_21
  refine lpMf (fun n s X => f_J7_fill_53178_21_5 n v (nI s) 240 X) (fun s X => (∀ j, j < s → X.1 21 j = v) ∧ ∀ a, a ≠ 21 → X.1 a = M.1 a) (fun b => ∃ M', b = some M' ∧ (∀ j, j < 240 → M'.1 21 j = v) ∧ ∀ a, a ≠ 21 → M'.1 a = M.1 a) (c := 240) M (by omega) ⟨fun j hj => absurd hj (by omega), fun _ _ => rfl⟩ ?_ ?_
  · intro s m X hs hI ih
    show ∃ M', f_J7_fill_53178_21_5 (m + 1) v (nI s) 240 X = some M' ∧ _
    unfold f_J7_fill_53178_21_5
    rw [if_neg (show ¬ (240 : Int32) ≤ nI s from nI_ge (b := 240) hs (by omega))]
    simp (disch := omega) only [mI, let_, bi_, bv_, ckI, clI, s1, s2, l1, l2, upd_at, Nat.reduceEqDiff, reduceIte, add1, ax13, ax_2, ax_3, ax_4, ax_5, ax_6, ax_7, ax_8, ax_9, ax_10, ax_11, ax_12]
    refine ih _ ⟨fun j hj => ?_, fun a ha => ?_⟩
    · simp (disch := omega) only [mI, let_, bi_, bv_, ckI, clI, s1, s2, l1, l2, upd_at, Nat.reduceEqDiff, reduceIte, add1, ax13, ax_2, ax_3, ax_4, ax_5, ax_6, ax_7, ax_8, ax_9, ax_10, ax_11, ax_12]
      by_cases e : j = s
      · rw [if_pos e]
      · rw [if_neg e]
        exact hI.1 j (by omega)
    · simp (disch := omega) only [mI, let_, bi_, bv_, ckI, clI, s1, s2, l1, l2, upd_at, Nat.reduceEqDiff, reduceIte, add1, ax13, ax_2, ax_3, ax_4, ax_5, ax_6, ax_7, ax_8, ax_9, ax_10, ax_11, ax_12, ha]
      exact hI.2 a ha
  · intro m X hI
    show ∃ M', f_J7_fill_53178_21_5 (m + 1) v (nI 240) 240 X = some M' ∧ _
    unfold f_J7_fill_53178_21_5
    rw [if_pos (show (240 : Int32) ≤ nI 240 by decide +kernel)]
    exact ⟨X, rfl, hI⟩
theorem fill_22 (M : mm_M) (v : Int32) : ∃ M', f_J7_fill_53178_22 v M = some M' ∧ (∀ j, j < 240 → M'.1 22 j = v) ∧ ∀ a, a ≠ 22 → M'.1 a = M.1 a := by
  unfold f_J7_fill_53178_22
  refine lpMf (fun n s X => f_J7_fill_53178_22_5 n v (nI s) 240 X) (fun s X => (∀ j, j < s → X.1 22 j = v) ∧ ∀ a, a ≠ 22 → X.1 a = M.1 a) (fun b => ∃ M', b = some M' ∧ (∀ j, j < 240 → M'.1 22 j = v) ∧ ∀ a, a ≠ 22 → M'.1 a = M.1 a) (c := 240) M (by omega) ⟨fun j hj => absurd hj (by omega), fun _ _ => rfl⟩ ?_ ?_
  · intro s m X hs hI ih
    show ∃ M', f_J7_fill_53178_22_5 (m + 1) v (nI s) 240 X = some M' ∧ _
    unfold f_J7_fill_53178_22_5
    rw [if_neg (show ¬ (240 : Int32) ≤ nI s from nI_ge (b := 240) hs (by omega))]
    simp (disch := omega) only [mI, let_, bi_, bv_, ckI, clI, s1, s2, l1, l2, upd_at, Nat.reduceEqDiff, reduceIte, add1, ax13, ax_2, ax_3, ax_4, ax_5, ax_6, ax_7, ax_8, ax_9, ax_10, ax_11, ax_12]
    refine ih _ ⟨fun j hj => ?_, fun a ha => ?_⟩
    · simp (disch := omega) only [mI, let_, bi_, bv_, ckI, clI, s1, s2, l1, l2, upd_at, Nat.reduceEqDiff, reduceIte, add1, ax13, ax_2, ax_3, ax_4, ax_5, ax_6, ax_7, ax_8, ax_9, ax_10, ax_11, ax_12]
      by_cases e : j = s
      · rw [if_pos e]
      · rw [if_neg e]
        exact hI.1 j (by omega)
    · simp (disch := omega) only [mI, let_, bi_, bv_, ckI, clI, s1, s2, l1, l2, upd_at, Nat.reduceEqDiff, reduceIte, add1, ax13, ax_2, ax_3, ax_4, ax_5, ax_6, ax_7, ax_8, ax_9, ax_10, ax_11, ax_12, ha]
      exact hI.2 a ha
  · intro m X hI
    show ∃ M', f_J7_fill_53178_22_5 (m + 1) v (nI 240) 240 X = some M' ∧ _
    unfold f_J7_fill_53178_22_5
    rw [if_pos (show (240 : Int32) ≤ nI 240 by decide +kernel)]
    exact ⟨X, rfl, hI⟩
theorem fill_23 (M : mm_M) (v : Int32) : ∃ M', f_J7_fill_53178_23 v M = some M' ∧ (∀ j, j < 240 → M'.1 23 j = v) ∧ ∀ a, a ≠ 23 → M'.1 a = M.1 a := by
  unfold f_J7_fill_53178_23
  refine lpMf (fun n s X => f_J7_fill_53178_23_5 n v (nI s) 240 X) (fun s X => (∀ j, j < s → X.1 23 j = v) ∧ ∀ a, a ≠ 23 → X.1 a = M.1 a) (fun b => ∃ M', b = some M' ∧ (∀ j, j < 240 → M'.1 23 j = v) ∧ ∀ a, a ≠ 23 → M'.1 a = M.1 a) (c := 240) M (by omega) ⟨fun j hj => absurd hj (by omega), fun _ _ => rfl⟩ ?_ ?_
  · intro s m X hs hI ih
    show ∃ M', f_J7_fill_53178_23_5 (m + 1) v (nI s) 240 X = some M' ∧ _
    unfold f_J7_fill_53178_23_5
    rw [if_neg (show ¬ (240 : Int32) ≤ nI s from nI_ge (b := 240) hs (by omega))]
    simp (disch := omega) only [mI, let_, bi_, bv_, ckI, clI, s1, s2, l1, l2, upd_at, Nat.reduceEqDiff, reduceIte, add1, ax13, ax_2, ax_3, ax_4, ax_5, ax_6, ax_7, ax_8, ax_9, ax_10, ax_11, ax_12]
    refine ih _ ⟨fun j hj => ?_, fun a ha => ?_⟩
    · simp (disch := omega) only [mI, let_, bi_, bv_, ckI, clI, s1, s2, l1, l2, upd_at, Nat.reduceEqDiff, reduceIte, add1, ax13, ax_2, ax_3, ax_4, ax_5, ax_6, ax_7, ax_8, ax_9, ax_10, ax_11, ax_12]
      by_cases e : j = s
      · rw [if_pos e]
      · rw [if_neg e]
        exact hI.1 j (by omega)
    · simp (disch := omega) only [mI, let_, bi_, bv_, ckI, clI, s1, s2, l1, l2, upd_at, Nat.reduceEqDiff, reduceIte, add1, ax13, ax_2, ax_3, ax_4, ax_5, ax_6, ax_7, ax_8, ax_9, ax_10, ax_11, ax_12, ha]
      exact hI.2 a ha
  · intro m X hI
    show ∃ M', f_J7_fill_53178_23_5 (m + 1) v (nI 240) 240 X = some M' ∧ _
    unfold f_J7_fill_53178_23_5
    rw [if_pos (show (240 : Int32) ≤ nI 240 by decide +kernel)]
    exact ⟨X, rfl, hI⟩
theorem fill_24 (M : mm_M) (v : Int32) : ∃ M', f_J7_fill_53178_24 v M = some M' ∧ (∀ j, j < 240 → M'.1 24 j = v) ∧ ∀ a, a ≠ 24 → M'.1 a = M.1 a := by
  unfold f_J7_fill_53178_24
  refine lpMf (fun n s X => f_J7_fill_53178_24_5 n v (nI s) 240 X) (fun s X => (∀ j, j < s → X.1 24 j = v) ∧ ∀ a, a ≠ 24 → X.1 a = M.1 a) (fun b => ∃ M', b = some M' ∧ (∀ j, j < 240 → M'.1 24 j = v) ∧ ∀ a, a ≠ 24 → M'.1 a = M.1 a) (c := 240) M (by omega) ⟨fun j hj => absurd hj (by omega), fun _ _ => rfl⟩ ?_ ?_
  · intro s m X hs hI ih
    show ∃ M', f_J7_fill_53178_24_5 (m + 1) v (nI s) 240 X = some M' ∧ _
    unfold f_J7_fill_53178_24_5
    rw [if_neg (show ¬ (240 : Int32) ≤ nI s from nI_ge (b := 240) hs (by omega))]
    simp (disch := omega) only [mI, let_, bi_, bv_, ckI, clI, s1, s2, l1, l2, upd_at, Nat.reduceEqDiff, reduceIte, add1, ax13, ax_2, ax_3, ax_4, ax_5, ax_6, ax_7, ax_8, ax_9, ax_10, ax_11, ax_12]
    refine ih _ ⟨fun j hj => ?_, fun a ha => ?_⟩
    · simp (disch := omega) only [mI, let_, bi_, bv_, ckI, clI, s1, s2, l1, l2, upd_at, Nat.reduceEqDiff, reduceIte, add1, ax13, ax_2, ax_3, ax_4, ax_5, ax_6, ax_7, ax_8, ax_9, ax_10, ax_11, ax_12]
      by_cases e : j = s
      · rw [if_pos e]
      · rw [if_neg e]
        exact hI.1 j (by omega)
    · simp (disch := omega) only [mI, let_, bi_, bv_, ckI, clI, s1, s2, l1, l2, upd_at, Nat.reduceEqDiff, reduceIte, add1, ax13, ax_2, ax_3, ax_4, ax_5, ax_6, ax_7, ax_8, ax_9, ax_10, ax_11, ax_12, ha]
      exact hI.2 a ha
  · intro m X hI
    show ∃ M', f_J7_fill_53178_24_5 (m + 1) v (nI 240) 240 X = some M' ∧ _
    unfold f_J7_fill_53178_24_5
    rw [if_pos (show (240 : Int32) ≤ nI 240 by decide +kernel)]
    exact ⟨X, rfl, hI⟩
theorem fill_25 (M : mm_M) (v : Int32) : ∃ M', f_J7_fill_53178_25 v M = some M' ∧ (∀ j, j < 240 → M'.1 25 j = v) ∧ ∀ a, a ≠ 25 → M'.1 a = M.1 a := by
  unfold f_J7_fill_53178_25
  refine lpMf (fun n s X => f_J7_fill_53178_25_5 n v (nI s) 240 X) (fun s X => (∀ j, j < s → X.1 25 j = v) ∧ ∀ a, a ≠ 25 → X.1 a = M.1 a) (fun b => ∃ M', b = some M' ∧ (∀ j, j < 240 → M'.1 25 j = v) ∧ ∀ a, a ≠ 25 → M'.1 a = M.1 a) (c := 240) M (by omega) ⟨fun j hj => absurd hj (by omega), fun _ _ => rfl⟩ ?_ ?_
  · intro s m X hs hI ih
    show ∃ M', f_J7_fill_53178_25_5 (m + 1) v (nI s) 240 X = some M' ∧ _
    unfold f_J7_fill_53178_25_5
    rw [if_neg (show ¬ (240 : Int32) ≤ nI s from nI_ge (b := 240) hs (by omega))]
    simp (disch := omega) only [mI, let_, bi_, bv_, ckI, clI, s1, s2, l1, l2, upd_at, Nat.reduceEqDiff, reduceIte, add1, ax13, ax_2, ax_3, ax_4, ax_5, ax_6, ax_7, ax_8, ax_9, ax_10, ax_11, ax_12]
    refine ih _ ⟨fun j hj => ?_, fun a ha => ?_⟩
    · simp (disch := omega) only [mI, let_, bi_, bv_, ckI, clI, s1, s2, l1, l2, upd_at, Nat.reduceEqDiff, reduceIte, add1, ax13, ax_2, ax_3, ax_4, ax_5, ax_6, ax_7, ax_8, ax_9, ax_10, ax_11, ax_12]
      by_cases e : j = s
      · rw [if_pos e]
      · rw [if_neg e]
        exact hI.1 j (by omega)
    · simp (disch := omega) only [mI, let_, bi_, bv_, ckI, clI, s1, s2, l1, l2, upd_at, Nat.reduceEqDiff, reduceIte, add1, ax13, ax_2, ax_3, ax_4, ax_5, ax_6, ax_7, ax_8, ax_9, ax_10, ax_11, ax_12, ha]
      exact hI.2 a ha
  · intro m X hI
    show ∃ M', f_J7_fill_53178_25_5 (m + 1) v (nI 240) 240 X = some M' ∧ _
    unfold f_J7_fill_53178_25_5
    rw [if_pos (show (240 : Int32) ≤ nI 240 by decide +kernel)]
    exact ⟨X, rfl, hI⟩
theorem forget2 (M : mm_M) (K : mm_M → Option mm_M) : ∃ M', f_X10_forget_2 K mm_fu (nI 0) M = K M' ∧ (∀ j, j < 100 → M'.1 17 j = 0) ∧ ∀ a, a ≠ 17 → M'.1 a = M.1 a := by
  refine lpMf (fun n s X => f_X10_forget_2 K n (nI s) X) (fun s X => (∀ j, j < s → X.1 17 j = 0) ∧ ∀ a, a ≠ 17 → X.1 a = M.1 a) (fun b => ∃ M', b = K M' ∧ (∀ j, j < 100 → M'.1 17 j = 0) ∧ ∀ a, a ≠ 17 → M'.1 a = M.1 a) (c := 100) M (by omega) ⟨fun j hj => absurd hj (by omega), fun _ _ => rfl⟩ ?_ ?_
  · intro s m X hs hI ih
    show ∃ M', f_X10_forget_2 K (m + 1) (nI s) X = K M' ∧ _
    unfold f_X10_forget_2
    rw [if_neg (show ¬ (100 : Int32) ≤ nI s from nI_ge (b := 100) hs (by omega))]
    simp (disch := omega) only [mI, let_, bi_, bv_, ckI, clI, s1, s2, l1, l2, upd_at, Nat.reduceEqDiff, reduceIte, add1, ax13, ax_2, ax_3, ax_4, ax_5, ax_6, ax_7, ax_8, ax_9, ax_10, ax_11, ax_12, a01]
    refine ih _ ⟨fun j hj => ?_, fun a ha => ?_⟩
    · simp (disch := omega) only [mI, let_, bi_, bv_, ckI, clI, s1, s2, l1, l2, upd_at, Nat.reduceEqDiff, reduceIte, add1, ax13, ax_2, ax_3, ax_4, ax_5, ax_6, ax_7, ax_8, ax_9, ax_10, ax_11, ax_12]
      by_cases e : j = s
      · rw [if_pos e]
      · rw [if_neg e]
        exact hI.1 j (by omega)
    · simp (disch := omega) only [mI, let_, bi_, bv_, ckI, clI, s1, s2, l1, l2, upd_at, Nat.reduceEqDiff, reduceIte, add1, ax13, ax_2, ax_3, ax_4, ax_5, ax_6, ax_7, ax_8, ax_9, ax_10, ax_11, ax_12, ha]
      exact hI.2 a ha
  · intro m X hI
    show ∃ M', f_X10_forget_2 K (m + 1) (nI 100) X = K M' ∧ _
    unfold f_X10_forget_2
    rw [if_pos (show (100 : Int32) ≤ nI 100 by decide +kernel)]
    exact ⟨X, rfl, hI⟩
theorem forget_ok (M : mm_M) : ∃ M', f_X10_forget M = some M' ∧ kC M M' ∧ (∀ j, j < 100 → M'.1 17 j = 0 ∧ M'.1 18 j = 0) ∧ (∀ j, j < 320 → M'.1 20 j = 0) ∧ ∀ o, o < 240 → M'.1 21 o = 0 ∧ M'.1 22 o = 0 ∧ M'.1 23 o = -1 ∧ M'.1 24 o = 0 ∧ M'.1 25 o = -1 := by
  obtain ⟨M0, a1, a2, a3⟩ := forget2 M f_X10_forget_21
  obtain ⟨M1, b1, b2, b3⟩ := fill_18 M0 0
  obtain ⟨M2, c1, c2, c3⟩ := fill_20 M1 0
  obtain ⟨M3, d1, d2, d3⟩ := fill_21 M2 0
  obtain ⟨M4, e1', e2', e3'⟩ := fill_22 M3 0
  obtain ⟨M5, f1, f2, f3⟩ := fill_23 M4 (-1)
  obtain ⟨M6, g1, g2, g3⟩ := fill_24 M5 0
  obtain ⟨M7, h1, h2, h3⟩ := fill_25 M6 (-1)
  refine ⟨M7, ?_, fun a ha => ?_, fun j hj => ⟨?_, ?_⟩, fun j hj => ?_, fun o ho => ⟨?_, ?_, ?_, ?_, ?_⟩⟩
  · unfold f_X10_forget
    rw [show f_X10_forget_2 f_X10_forget_21 mm_fu 0 M = _ from a1]
    unfold f_X10_forget_21
    rw [b1, bv_, c1, bv_, d1, bv_, e1', bv_, f1, bv_, g1, bv_, h1, bv_]
  · rw [h3 a (neC ha rfl), g3 a (neC ha rfl), f3 a (neC ha rfl), e3' a (neC ha rfl), d3 a (neC ha rfl), c3 a (neC ha rfl), b3 a (neC ha rfl), a3 a (neC ha rfl)]
  · rw [h3 17 (by omega), g3 17 (by omega), f3 17 (by omega), e3' 17 (by omega), d3 17 (by omega), c3 17 (by omega), b3 17 (by omega), a2 j hj]
  · rw [h3 18 (by omega), g3 18 (by omega), f3 18 (by omega), e3' 18 (by omega), d3 18 (by omega), c3 18 (by omega), b2 j hj]
  · rw [h3 20 (by omega), g3 20 (by omega), f3 20 (by omega), e3' 20 (by omega), d3 20 (by omega), c2 j hj]
  · rw [h3 21 (by omega), g3 21 (by omega), f3 21 (by omega), e3' 21 (by omega), d2 o ho]
  · rw [h3 22 (by omega), g3 22 (by omega), f3 22 (by omega), e2' o ho]
  · rw [h3 23 (by omega), g3 23 (by omega), f2 o ho]
  · rw [h3 24 (by omega), g2 o ho]
  · rw [h2 o ho]
theorem clear_r (R : mm_M) (x : Int32) (K : Int32 → mm_M → Option mm_M) : ∃ R', f_X12_weigh_2 K mm_fu x (nI 0) R = K x R' ∧ (∀ o, o < 240 → R'.1 39 o = 0 ∧ R'.1 41 o = 0 ∧ R'.1 42 o = 0) ∧ ∀ a, a ≠ 39 → a ≠ 41 → a ≠ 42 → R'.1 a = R.1 a := by
  refine lpMf (fun n s X => f_X12_weigh_2 K n x (nI s) X) (fun s X => (∀ o, o < s → X.1 39 o = 0 ∧ X.1 41 o = 0 ∧ X.1 42 o = 0) ∧ ∀ a, a ≠ 39 → a ≠ 41 → a ≠ 42 → X.1 a = R.1 a) (fun b => ∃ R', b = K x R' ∧ (∀ o, o < 240 → R'.1 39 o = 0 ∧ R'.1 41 o = 0 ∧ R'.1 42 o = 0) ∧ ∀ a, a ≠ 39 → a ≠ 41 → a ≠ 42 → R'.1 a = R.1 a) (c := 240) R (by omega) ⟨fun j hj => absurd hj (by omega), fun _ _ _ _ => rfl⟩ ?_ ?_
  · intro s m X hs hI ih
    show ∃ R', f_X12_weigh_2 K (m + 1) x (nI s) X = K x R' ∧ _
    unfold f_X12_weigh_2
    rw [if_neg (show ¬ (240 : Int32) ≤ nI s from nI_ge (b := 240) hs (by omega))]
    simp (disch := omega) only [mI, let_, bi_, bv_, ckI, clI, s1, s2, l1, l2, upd_at, Nat.reduceEqDiff, reduceIte, add1, ax13, ax_2, ax_3, ax_4, ax_5, ax_6, ax_7, ax_8, ax_9, ax_10, ax_11, ax_12]
    refine ih _ ⟨fun j hj => ?_, fun a h1 h2 h3 => ?_⟩
    · simp (disch := omega) only [mI, let_, bi_, bv_, ckI, clI, s1, s2, l1, l2, upd_at, Nat.reduceEqDiff, reduceIte, add1, ax13, ax_2, ax_3, ax_4, ax_5, ax_6, ax_7, ax_8, ax_9, ax_10, ax_11, ax_12]
      by_cases e : j = s
      · rw [if_pos e, if_pos e, if_pos e]
        exact ⟨rfl, rfl, rfl⟩
      · rw [if_neg e, if_neg e, if_neg e]
        exact hI.1 j (by omega)
    · simp (disch := omega) only [mI, let_, bi_, bv_, ckI, clI, s1, s2, l1, l2, upd_at, Nat.reduceEqDiff, reduceIte, add1, ax13, ax_2, ax_3, ax_4, ax_5, ax_6, ax_7, ax_8, ax_9, ax_10, ax_11, ax_12, h1, h2, h3]
      exact hI.2 a h1 h2 h3
  · intro m X hI
    show ∃ R', f_X12_weigh_2 K (m + 1) x (nI 240) X = K x R' ∧ _
    unfold f_X12_weigh_2
    rw [if_pos (show (240 : Int32) ≤ nI 240 by decide +kernel)]
    exact ⟨X, rfl, hI⟩
def stR (i : Nat) (R R' : mm_M) : Prop := (∀ j, j ≠ i → R'.1 35 j = R.1 35 j ∧ R'.1 36 j = R.1 36 j ∧ R'.1 37 j = R.1 37 j) ∧ ∀ x, (x < 13 * i ∨ 13 * i + 13 ≤ x) → R'.1 38 x = R.1 38 x
/-- one round of both loops -/
theorem step_w {C R : mm_M} (h : Rel C R) {k : Int32} {n t i : Nat} (hn : R.1 0 2 = nI n) (hn4 : n ≤ 40) (ht : R.1 0 43 = nI t) (ht1 : t ≤ 100) (hi : i < t) (hJ : J k i C R) : ∃ C' R', (∀ m f, i < f → f ≤ 100 → f_X10_weigh_6 (m + 1) k (nI f) (nI i) C = f_X10_weigh_6 m k (nI f) (nI (i + 1)) C') ∧ (∀ m, f_X12_weigh_38 (m + 1) k (nI i) R = f_X12_weigh_38 m k (nI (i + 1)) R') ∧ J k (i + 1) C' R' ∧ kC C C' ∧ kR R R' ∧ stR i R R' ∧ (cbF (R.1 33) (R.1 34) k i = 1 → ∃ C1, f_X10_gather (nI i) C = some C1 ∧ kC C C1 ∧ corr (C1.1 19) (fun y => R'.1 38 (13 * i + y))) := by
  have h' := h
  obtain ⟨⟨⟨bd, bn, bt, bu, bv, bw, bl⟩, _, _, ⟨ta, tb, tc, td, te, tf, tg⟩, _, _⟩, _, _, _, d', n', t', u', v', w', ⟨⟨⟨id1, id2⟩, _, ⟨it1, it2⟩, _⟩, _, _, jT, _⟩, _⟩ := h'
  obtain rfl : t = t' := (nI_eq (by omega) (by omega)).mp (ht.symm.trans it1)
  have hct : C.1 4 7 = nI t := bt.trans ht
  have cc := counts_c hct ht1 hi k
  rw [tf, tg] at cc
  have cr := counts_r id2 (show i < 100 by omega) (jT.1 i hi |>.choose_spec.choose_spec.choose_spec.2.2.2.2.2.2.2.2.2.2.2) k
  have c01 := cbF01 (R.1 33) (R.1 34) k i
  have hR0 : ∀ m, f_X12_weigh_38 (m + 1) k (nI i) R = (if cbF (R.1 33) (R.1 34) k i = 0 then f_X12_weigh_38 m k (nI (i + 1)) (sI (sI (sI R 35 i 0) 36 i 0) 37 i 0) else mm_bv (f_X12_weighOne (nI i) (sI (sI (sI R 35 i 1) 36 i 0) 37 i 0)) (fun M5 => f_X12_weigh_38 m k (nI (i + 1)) M5)) := by
    intro m
    conv => lhs; unfold f_X12_weigh_38 f_X12_weigh_86
    unfold mI
    rw [ht, if_neg (nI_ge hi (by omega)), cr, bi_]
    simp (disch := omega) only [mI, let_, bi_, bv_, ckI, clI, s1, s2, l1, l2, upd_at, Nat.reduceEqDiff, reduceIte, add1, ax13, ax_2, ax_3, ax_4, ax_5, ax_6, ax_7, ax_8, ax_9, ax_10, ax_11, ax_12, a01]
    rw [bw1 c01]
    rcases c01 with z | z
    · rw [z, if_pos rfl, if_pos rfl]
    · rw [z, if_neg n10, if_neg n10]
  have hC0 : ∀ m f, i < f → f ≤ 100 → f_X10_weigh_6 (m + 1) k (nI f) (nI i) C = (if cbF (R.1 33) (R.1 34) k i = 0 then f_X10_weigh_6 m k (nI f) (nI (i + 1)) C else mm_bv (f_X10_gather (nI i) C) (fun M2 => mm_bv (f_X10_settle (nI i) M2) (fun M3 => f_X10_weigh_6 m k (nI f) (nI (i + 1)) M3))) := by
    intro m f hf hf1
    conv => lhs; unfold f_X10_weigh_6 f_X10_weigh_44
    unfold mI
    rw [if_neg (nI_ge hf (by omega)), hct, if_neg (nI_ge hi (by omega)), cc, bi_, add1]
  rcases c01 with z | z
  · refine ⟨C, sI (sI (sI R 35 i 0) 36 i 0) 37 i 0, fun m f hf hf1 => ?_, fun m => ?_, ?_, kC_r C, ?_, ⟨fun j hj => ⟨?_, ?_, ?_⟩, fun x hx => ?_⟩, fun y => absurd (y.symm.trans z) n10⟩
    · rw [hC0 m f hf hf1, if_pos z]
    · rw [hR0 m, if_pos z]
    · refine J_skip hJ (by omega) (kR_t (kR_sI _ 35 _ _ rfl (by omega)) (kR_t (kR_sI _ 36 _ _ rfl (by omega)) (kR_sI _ 37 _ _ rfl (by omega)))) z (fun j hj => ⟨?_, ?_, ?_⟩) ?_ ?_ ?_ ?_
      · simp only [s1, s2, l1, l2, upd_at, Nat.reduceEqDiff, reduceIte, hj]
      · simp only [s1, s2, l1, l2, upd_at, Nat.reduceEqDiff, reduceIte, hj]
      · simp only [s1, s2, l1, l2, upd_at, Nat.reduceEqDiff, reduceIte, hj]
      · simp only [s1, s2, l1, l2, upd_at, Nat.reduceEqDiff, reduceIte]
      · simp only [s1, s2, l1, l2, upd_at, Nat.reduceEqDiff, reduceIte]
      · simp only [s1, s2, l1, l2, upd_at, Nat.reduceEqDiff, reduceIte]
      · simp only [s1, s2, l1, l2, upd_at, Nat.reduceEqDiff, reduceIte]
        exact ⟨trivial, trivial, trivial, trivial, trivial⟩
    · exact kR_t (kR_sI _ 35 _ _ rfl (by omega)) (kR_t (kR_sI _ 36 _ _ rfl (by omega)) (kR_sI _ 37 _ _ rfl (by omega)))
    · simp only [s1, s2, l1, l2, upd_at, Nat.reduceEqDiff, reduceIte, hj]
    · simp only [s1, s2, l1, l2, upd_at, Nat.reduceEqDiff, reduceIte, hj]
    · simp only [s1, s2, l1, l2, upd_at, Nat.reduceEqDiff, reduceIte, hj]
    · simp only [s1, s2, l1, l2, upd_at, Nat.reduceEqDiff, reduceIte]
  · obtain ⟨C1, C', R', g1, g2, g3, g4, g5, g6, g7, g8, g9, g10⟩ := one_ok h hn hn4 ht ht1 hi hJ z
    refine ⟨C', R', fun m f hf hf1 => ?_, fun m => ?_, g4, g5, g6, ⟨g9, g10⟩, fun _ => ⟨C1, g1, g7, g8⟩⟩
    · rw [hC0 m f hf hf1, if_neg (by rw [z]; exact n10), g1, bv_, g2, bv_]
    · rw [hR0 m, if_neg (by rw [z]; exact n10), g3, bv_]
/-- the reference goes on to its end -/
theorem w_rest {k : Int32} {n t : Nat} (hn4 : n ≤ 40) (ht1 : t ≤ 100) : ∀ (m i nR : Nat) (C R : mm_M), i + m = t → m < nR → Rel C R → R.1 0 2 = nI n → R.1 0 43 = nI t → J k i C R → ∃ C' R', f_X12_weigh_38 nR k (nI i) R = some R' ∧ J k t C' R' ∧ kC C C' ∧ kR R R' ∧ (∀ j, j < i → R'.1 35 j = R.1 35 j ∧ R'.1 36 j = R.1 36 j ∧ R'.1 37 j = R.1 37 j) ∧ ∀ x, x < 13 * i → R'.1 38 x = R.1 38 x := by
  intro m
  induction m with
  | zero =>
    intro i nR C R hi hnR h hn ht hJ
    obtain ⟨nR, rfl⟩ : ∃ q, nR = q + 1 := ⟨nR - 1, by omega⟩
    obtain rfl : i = t := by omega
    refine ⟨C, R, ?_, hJ, kC_r C, kR_r R, fun _ _ => ⟨rfl, rfl, rfl⟩, fun _ _ => rfl⟩
    unfold f_X12_weigh_38 mI
    rw [ht, if_pos (nI_le (by omega) (by omega))]
  | succ m ih =>
    intro i nR C R hi hnR h hn ht hJ
    obtain ⟨nR, rfl⟩ : ∃ q, nR = q + 1 := ⟨nR - 1, by omega⟩
    obtain ⟨C1, R1, g1, g2, g3, g4, g5, g6, _⟩ := step_w h hn hn4 ht ht1 (show i < t by omega) hJ
    obtain ⟨C', R', e1', e2', e3', e4', e5', e6'⟩ := ih (i + 1) nR C1 R1 (by omega) (by omega) (rel_k h g4 g5) (by rw [g5.2 2 rfl]; exact hn) (by rw [g5.2 43 rfl]; exact ht) g3
    refine ⟨C', R', by rw [g2]; exact e1', e2', kC_t g4 e3', kR_t g5 e4', fun j hj => ?_, fun x hx => ?_⟩
    · obtain ⟨y1, y2, y3⟩ := e5' j (by omega)
      obtain ⟨z1, z2, z3⟩ := g6.1 j (by omega)
      exact ⟨y1.trans z1, y2.trans z2, y3.trans z3⟩
    · rw [e6' x (by omega), g6.2 x (by omega)]
/-- both sides up to test f -/
theorem w_upto {k : Int32} {n t f : Nat} (hn4 : n ≤ 40) (ht1 : t ≤ 100) (hf : f ≤ t) : ∀ (m i nC : Nat) (C R : mm_M), i + m = f → m < nC → Rel C R → R.1 0 2 = nI n → R.1 0 43 = nI t → J k i C R → ∃ C' R', f_X10_weigh_6 nC k (nI f) (nI i) C = some C' ∧ (∀ nR, f_X12_weigh_38 (nR + m) k (nI i) R = f_X12_weigh_38 nR k (nI f) R') ∧ J k f C' R' ∧ kC C C' ∧ kR R R' := by
  intro m
  induction m with
  | zero =>
    intro i nC C R hi hnC h hn ht hJ
    obtain ⟨nC, rfl⟩ : ∃ q, nC = q + 1 := ⟨nC - 1, by omega⟩
    obtain rfl : i = f := by omega
    refine ⟨C, R, ?_, fun _ => rfl, hJ, kC_r C, kR_r R⟩
    unfold f_X10_weigh_6
    rw [if_pos (nI_le (by omega) (by omega))]
  | succ m ih =>
    intro i nC C R hi hnC h hn ht hJ
    obtain ⟨nC, rfl⟩ : ∃ q, nC = q + 1 := ⟨nC - 1, by omega⟩
    obtain ⟨C1, R1, g1, g2, g3, g4, g5, g6, _⟩ := step_w h hn hn4 ht ht1 (show i < t by omega) hJ
    obtain ⟨C', R', e1', e2', e3', e4', e5'⟩ := ih (i + 1) nC C1 R1 (by omega) (by omega) (rel_k h g4 g5) (by rw [g5.2 2 rfl]; exact hn) (by rw [g5.2 43 rfl]; exact ht) g3
    refine ⟨C', R', by rw [g1 nC f (by omega) (by omega)]; exact e1', fun nR => ?_, e3', kC_t g4 e4', kR_t g5 e5'⟩
    rw [show nR + (m + 1) = (nR + m) + 1 by omega, g2]
    exact e2' nR
theorem weigh_ok {C R : mm_M} (h : Rel C R) (k : Int32) {n t f : Nat} (hn : R.1 0 2 = nI n) (hn4 : n ≤ 40) (ht : R.1 0 43 = nI t) (ht1 : t ≤ 100) (hf : f ≤ t) : ∃ C' R1 nR, f_X10_weigh k (nI f) C = some C' ∧ J k f C' R1 ∧ kC C C' ∧ kR R R1 ∧ t < nR ∧ f_X12_weigh k R = f_X12_weigh_38 nR k (nI f) R1 := by
  obtain ⟨C0, a1, a2, a3, a4, a5⟩ := forget_ok C
  obtain ⟨R0, b1, b2, b3⟩ := clear_r R k f_X12_weigh_36
  have kR0 : kR R R0 := ⟨fun a ha => b3 a (neR ha rfl) (neR ha rfl) (neR ha rfl), fun j hj => by rw [b3 0 (by omega) (by omega) (by omega)]⟩
  have hJ0 : J k 0 C0 R0 := by
    refine ⟨fun o ho => ?_, fun c s hc hs => ?_, fun j hj => absurd hj (by omega), fun j _ hj => a3 j hj⟩
    · obtain ⟨x1, x2, x3, x4, x5⟩ := a5 o ho
      obtain ⟨y1, y2, y3⟩ := b2 o ho
      rw [x1, x2, x3, x4, x5, y1, y2, y3]
      exact ⟨rfl, rfl, rfl, ⟨0, rfl, by omega, by omega⟩, ⟨0, rfl, by omega, by omega⟩, Or.inl ⟨rfl, rfl⟩, Or.inl ⟨rfl, rfl⟩, rfl⟩
    · rw [a4 _ (by omega)]
      rfl
  obtain ⟨C', R1, g1, g2, g3, g4, g5⟩ := w_upto (k := k) hn4 ht1 hf f 0 mm_fu C0 R0 (by omega) (fuGt (by omega)) (rel_k h a2 kR0) (by rw [kR0.2 2 rfl]; exact hn) (by rw [kR0.2 43 rfl]; exact ht) hJ0
  have hfu : mm_fu = 100000 := rfl
  refine ⟨C', R1, mm_fu - f, ?_, g3, kC_t a2 g4, kR_t kR0 g5, by omega, ?_⟩
  · unfold f_X10_weigh
    rw [a1, bv_]
    exact g1
  · unfold f_X12_weigh
    rw [show f_X12_weigh_2 f_X12_weigh_36 mm_fu k 0 R = _ from b1]
    unfold f_X12_weigh_36
    have := g2 (mm_fu - f)
    rw [show mm_fu - f + f = mm_fu by omega] at this
    exact this
/-- all tests, both sides -/
theorem weigh_all {C R : mm_M} (h : Rel C R) (k : Int32) {n t : Nat} (hn : R.1 0 2 = nI n) (hn4 : n ≤ 40) (ht : R.1 0 43 = nI t) (ht1 : t ≤ 100) : ∃ C' R', f_X10_weigh k (nI t) C = some C' ∧ f_X12_weigh k R = some R' ∧ J k t C' R' ∧ kC C C' ∧ kR R R' := by
  obtain ⟨C', R1, nR, g1, g2, g3, g4, g5, g6⟩ := weigh_ok h k hn hn4 ht ht1 (Nat.le_refl t)
  refine ⟨C', R1, g1, ?_, g2, g3, g4⟩
  rw [g6]
  obtain ⟨nR, rfl⟩ : ∃ q, nR = q + 1 := ⟨nR - 1, by omega⟩
  unfold f_X12_weigh_38 mI
  rw [g4.2 43 rfl, ht, if_pos (nI_le (by omega) (by omega))]

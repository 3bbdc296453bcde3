theorem open_r {R : mm_M} {c : Nat} (hc : R.1 0 2 = nI c) (h40 : c ≤ 40) : ∀ (m s n : Nat), s + m = c → m < n → f_X12_openMany_4 n (nI (cnt (R.1 6) s)) (nI s) R = some (nI (cnt (R.1 6) c), R) := by
  intro m
  induction m with
  | zero =>
    intro s n hs hn
    obtain ⟨n, rfl⟩ : ∃ q, n = q + 1 := ⟨n - 1, by omega⟩
    obtain rfl : s = c := by omega
    unfold f_X12_openMany_4 mI
    rw [hc, if_pos (nI_le (by omega) (by omega))]
  | succ m ih =>
    intro s n hs hn
    obtain ⟨n, rfl⟩ : ∃ q, n = q + 1 := ⟨n - 1, by omega⟩
    unfold f_X12_openMany_4 mI f_X12_openMany_27
    simp only [hc, if_neg (nI_ge (show s < c by omega) (show c < 2 ^ 31 by omega)), ckI (show s < 40 by omega) (show 40 ≤ 100000 by omega), clI (show s < 2 ^ 31 by omega), let_, add1]
    by_cases e : R.1 6 s = 0
    · rw [if_pos e, show nI (cnt (R.1 6) s) + 0 = nI (cnt (R.1 6) (s + 1)) by rw [cnt_z e]; exact nI_add _ 0]
      exact ih (s + 1) n (by omega) (by omega)
    · rw [if_neg e, ← cnt_nz e]
      exact ih (s + 1) n (by omega) (by omega)
theorem open_c {C : mm_M} {c : Nat} (hc : C.1 2 8 = nI c) (h40 : c ≤ 40) : ∀ (m s n : Nat), s + m = c → m < n → f_X6_openOnes_4 n (nI (cnt (C.1 31) s)) (nI s) C = some (nI (cnt (C.1 31) c), C) := by
  intro m
  induction m with
  | zero =>
    intro s n hs hn
    obtain ⟨n, rfl⟩ : ∃ q, n = q + 1 := ⟨n - 1, by omega⟩
    obtain rfl : s = c := by omega
    unfold f_X6_openOnes_4 mI
    rw [hc, if_pos (nI_le (by omega) (by omega))]
  | succ m ih =>
    intro s n hs hn
    obtain ⟨n, rfl⟩ : ∃ q, n = q + 1 := ⟨n - 1, by omega⟩
    unfold f_X6_openOnes_4 mI f_X6_openOnes_24
    simp only [hc, if_neg (nI_ge (show s < c by omega) (show c < 2 ^ 31 by omega)), ckI (show s < 40 by omega) (show 40 ≤ 100000 by omega), clI (show s < 2 ^ 31 by omega), add1]
    by_cases e : C.1 31 s = 0
    · rw [if_pos e, ← cnt_z e]
      exact ih (s + 1) n (by omega) (by omega)
    · rw [if_neg e, ← cnt_nz e]
      exact ih (s + 1) n (by omega) (by omega)
theorem openMany_ok {R : mm_M} {c : Nat} (hc : R.1 0 2 = nI c) (h40 : c ≤ 40) : f_X12_openMany R = some (nI (cnt (R.1 6) c), R) := open_r hc h40 c 0 mm_fu (by omega) (fuGt (by omega))
theorem openOnes_ok {C : mm_M} {c : Nat} (hc : C.1 2 8 = nI c) (h40 : c ≤ 40) : f_X6_openOnes C = some (nI (cnt (C.1 31) c), C) := open_c hc h40 c 0 mm_fu (by omega) (fuGt (by omega))
theorem told_r {R : mm_M} : ∀ (m s n : Nat), s + m = 8 → m < n → f_X12_count_113 n (nI (cnt (R.1 9) s)) (nI s) R = some (nI (cnt (R.1 9) 8), R) := by
  intro m
  induction m with
  | zero =>
    intro s n hs hn
    obtain ⟨n, rfl⟩ : ∃ q, n = q + 1 := ⟨n - 1, by omega⟩
    obtain rfl : s = 8 := by omega
    unfold f_X12_count_113
    rw [if_pos (show (8 : Int32) ≤ nI 8 by decide +kernel)]
  | succ m ih =>
    intro s n hs hn
    obtain ⟨n, rfl⟩ : ∃ q, n = q + 1 := ⟨n - 1, by omega⟩
    unfold f_X12_count_113 mI f_X12_count_134
    simp only [if_neg (show ¬ (8 : Int32) ≤ nI s from nI_ge (b := 8) (by omega) (by decide)), ckI (show s < 8 by omega) (show 8 ≤ 100000 by omega), clI (show s < 2 ^ 31 by omega), let_, add1]
    by_cases e : R.1 9 s = 0
    · rw [if_pos e, show nI (cnt (R.1 9) s) + 0 = nI (cnt (R.1 9) (s + 1)) by rw [cnt_z e]; exact nI_add _ 0]
      exact ih (s + 1) n (by omega) (by omega)
    · rw [if_neg e, ← cnt_nz e]
      exact ih (s + 1) n (by omega) (by omega)
theorem told_c {C : mm_M} : ∀ (m s n : Nat), s + m = 8 → m < n → f_X0_toldOnes_4 n (nI (cnt (C.1 34) s)) (nI s) C = some (nI (cnt (C.1 34) 8), C) := by
  intro m
  induction m with
  | zero =>
    intro s n hs hn
    obtain ⟨n, rfl⟩ : ∃ q, n = q + 1 := ⟨n - 1, by omega⟩
    obtain rfl : s = 8 := by omega
    unfold f_X0_toldOnes_4
    rw [if_pos (show (8 : Int32) ≤ nI 8 by decide +kernel)]
  | succ m ih =>
    intro s n hs hn
    obtain ⟨n, rfl⟩ : ∃ q, n = q + 1 := ⟨n - 1, by omega⟩
    unfold f_X0_toldOnes_4 mI f_X0_toldOnes_22
    simp only [if_neg (show ¬ (8 : Int32) ≤ nI s from nI_ge (b := 8) (by omega) (by decide)), ckI (show s < 8 by omega) (show 8 ≤ 100000 by omega), clI (show s < 2 ^ 31 by omega), add1]
    by_cases e : C.1 34 s = 0
    · rw [if_pos e, ← cnt_z e]
      exact ih (s + 1) n (by omega) (by omega)
    · rw [if_neg e, ← cnt_nz e]
      exact ih (s + 1) n (by omega) (by omega)

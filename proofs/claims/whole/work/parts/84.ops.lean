theorem c235 {R : mm_M} (x : Int32) (o : Nat) (hx : (x = 9 ∧ o = 15) ∨ (¬ x = 9 ∧ o = 47)) : f_X12_count_235 mm_fu x (nI 0) (nI 0) R = some (nI (cnt (R.1 o) 40), R) := by
  refine lpf (fun n s => f_X12_count_235 n x (nI (cnt (R.1 o) s)) (nI s) R) (c := 40) (by omega) ?_ ?_
  · intro s m hs
    show f_X12_count_235 (m + 1) _ _ _ _ = f_X12_count_235 m _ _ _ _
    conv => lhs; unfold f_X12_count_235 f_X12_count_273 f_X12_count_269 f_X12_count_274
    rw [if_neg (show ¬ (40 : Int32) ≤ nI s from nI_ge (b := 40) hs (by omega))]
    simp (disch := omega) only [mI, let_, bi_, bv_, ckI, clI, s1, s2, l1, l2, upd_at, Nat.reduceEqDiff, reduceIte, add1, ax13, ax_2, ax_3, ax_4, ax_5, ax_6, ax_7, ax_8, ax_9, ax_10, ax_11, ax_12]
    rcases hx with ⟨z, rfl⟩ | ⟨z, rfl⟩
    · rw [if_pos z]
      by_cases e : R.1 15 s = 0
      · rw [if_pos e, ad0, cnt_z e]
      · rw [if_neg e, cnt_nz e]
    · rw [if_neg z]
      by_cases e : R.1 47 s = 0
      · rw [if_pos e, ad0, cnt_z e]
      · rw [if_neg e, cnt_nz e]
  · intro m
    show f_X12_count_235 (m + 1) _ _ (nI 40) _ = _
    unfold f_X12_count_235
    rw [if_pos (show (40 : Int32) ≤ nI 40 by decide +kernel)]
/-- voided ones -/
theorem void_l {C R : mm_M} {t d : Nat} (hd : d ≤ 2000) (hc : C.1 4 7 = nI t) (hr : R.1 0 43 = nI t) (ht : t ≤ 100) (e : C.1 45 = R.1 34) (hv : ∀ j, j < t → R.1 34 j = -1 ∨ rng (R.1 34 j) 0 d) : ∀ (m s x nC nR : Nat), s + m = t → m < nC → m < nR → ∃ r, f_X9_voidedOnes_4 nC (nI x) (nI s) C = some (r, C) ∧ f_X12_count_164 nR (nI 6) (nI x) (nI s) R = some (r, R) := by
  intro m
  induction m with
  | zero =>
    intro s x nC nR hs h1 h2
    obtain ⟨nC, rfl⟩ : ∃ q, nC = q + 1 := ⟨nC - 1, by omega⟩
    obtain ⟨nR, rfl⟩ : ∃ q, nR = q + 1 := ⟨nR - 1, by omega⟩
    obtain rfl : s = t := by omega
    refine ⟨nI x, ?_, ?_⟩
    · unfold f_X9_voidedOnes_4 mI
      rw [hc, if_pos (nI_le (by omega) (by omega))]
    · unfold f_X12_count_164 mI
      rw [hr, if_pos (nI_le (by omega) (by omega))]
  | succ m ih =>
    intro s x nC nR hs h1 h2
    obtain ⟨nC, rfl⟩ : ∃ q, nC = q + 1 := ⟨nC - 1, by omega⟩
    obtain ⟨nR, rfl⟩ : ∃ q, nR = q + 1 := ⟨nR - 1, by omega⟩
    have hvo := void_of hd (hv s (by omega))
    unfold f_X9_voidedOnes_4 f_X9_voidedOnes_23 f_X12_count_164 f_X12_count_222 f_X12_count_218 f_X12_count_223 mI
    rw [hc, hr, if_neg (nI_ge (by omega) (by omega)), if_neg (nI_ge (by omega) (by omega)), void_c hc ht (by omega), bi_, e, if_pos (show nI 6 = 6 from rfl), ckI (by omega) (by omega), clI (by omega)]
    by_cases z : R.1 34 s = -1
    · rw [if_pos z, if_pos rfl, if_pos (hvo.mp z), let_, ad0, add1]
      exact ih (s + 1) x nC nR (by omega) (by omega) (by omega)
    · rw [if_neg z, if_neg n10, if_neg (fun y => z (hvo.mpr y)), let_, add1, add1]
      exact ih (s + 1) (x + 1) nC nR (by omega) (by omega) (by omega)
/-- good ones; f 0: all, 1: sold ones -/
theorem good_l {C R : mm_M} {t f : Nat} (hf : f ≤ 1) (hc : C.1 4 7 = nI t) (hr : R.1 0 43 = nI t) (ht : t ≤ 100) (e : ∀ j, j < t → C.1 17 j = R.1 36 j) (eb : C.1 43 = R.1 32) (hb : ∀ j, j < t → rng (R.1 32 j) 0 7) : ∀ (m s x nC nR : Nat), s + m = t → m < nC → m < nR → ∃ r, f_X11_goodNow_22 nC (nI f) (nI x) (nI s) C = some (r, C) ∧ f_X12_count_164 nR (nI (7 + f)) (nI x) (nI s) R = some (r, R) := by
  intro m
  induction m with
  | zero =>
    intro s x nC nR hs h1 h2
    obtain ⟨nC, rfl⟩ : ∃ q, nC = q + 1 := ⟨nC - 1, by omega⟩
    obtain ⟨nR, rfl⟩ : ∃ q, nR = q + 1 := ⟨nR - 1, by omega⟩
    obtain rfl : s = t := by omega
    refine ⟨nI x, ?_, ?_⟩
    · unfold f_X11_goodNow_22 mI
      rw [hc, if_pos (nI_le (by omega) (by omega))]
    · unfold f_X12_count_164 mI
      rw [hr, if_pos (nI_le (by omega) (by omega))]
  | succ m ih =>
    intro s x nC nR hs h1 h2
    obtain ⟨nC, rfl⟩ : ∃ q, nC = q + 1 := ⟨nC - 1, by omega⟩
    obtain ⟨nR, rfl⟩ : ∃ q, nR = q + 1 := ⟨nR - 1, by omega⟩
    obtain ⟨b, b1, b2, b3⟩ := hb s (by omega)
    have hsold := sold_c hc ht (show s < t by omega) (b := b) (by rw [eb]; exact b1)
    have n6 : ¬ nI (7 + f) = 6 := fun q => by have := (nI_eq (a := 7 + f) (b := 6) (by omega) (by omega)).mp q; omega
    unfold f_X11_goodNow_22 f_X11_goodNow_63 f_X11_goodNow_60 f_X11_goodNow_63 f_X12_count_164 f_X12_count_222 f_X12_count_218 f_X12_count_223 mI
    rw [hc, hr, if_neg (nI_ge (by omega) (by omega)), if_neg (nI_ge (by omega) (by omega)), ckI (by omega) (by omega), clI (by omega), e s (by omega), if_neg n6, ckI (by omega) (by omega), hsold, bi_, let_, let_, ad0, add1, add1]
    by_cases z : R.1 36 s = 0
    · rw [if_pos z, if_pos z]
      exact ih (s + 1) x nC nR (by omega) (by omega) (by omega)
    · rw [if_neg z, if_neg z]
      rcases (show f = 0 ∨ f = 1 by omega) with rfl | rfl
      · rw [if_pos (show nI 0 = 0 from rfl), if_pos (show nI (7 + 0) = 7 from rfl)]
        exact ih (s + 1) (x + 1) nC nR (by omega) (by omega) (by omega)
      · rw [if_neg (show ¬ nI 1 = 0 from n10), if_neg (show ¬ nI (7 + 1) = 7 by decide +kernel), ckI (by omega) (by omega), b1]
        rcases bit4 b3 with ⟨y1, y2⟩ | ⟨y1, y2⟩
        · rw [if_pos y1, if_pos rfl, y2, if_neg (by decide +kernel)]
          exact ih (s + 1) x nC nR (by omega) (by omega) (by omega)
        · rw [if_neg y1, if_neg n10, y2, if_pos rfl]
          exact ih (s + 1) (x + 1) nC nR (by omega) (by omega) (by omega)
theorem ne_ {a b : Nat} (ha : a < 1000) (hb : b < 1000) (h : a ≠ b) : ¬ nI a = nI b := fun q => h ((nI_eq (by omega) (by omega)).mp q)
theorem case12 {α : Type} {x : Int32} {X0 X1 X2 X3 X4 X5 X6 X7 X8 X9 X10 X17 D : Option α} (h : ∀ k : Nat, k < 18 → ¬ (11 ≤ k ∧ k ≤ 16) → ¬ x = nI k) : mm_case x [0, 1, 2, 3, 4, 5, 6, 7, 8, 9, 10, 17] [X0, X1, X2, X3, X4, X5, X6, X7, X8, X9, X10, X17] D = D := by
  unfold mm_case mm_case mm_case mm_case mm_case mm_case mm_case mm_case mm_case mm_case mm_case mm_case mm_case
  rw [if_neg (show ¬ x = 0 from h 0 (by omega) (by omega)), if_neg (show ¬ x = 1 from h 1 (by omega) (by omega)), if_neg (show ¬ x = 2 from h 2 (by omega) (by omega)), if_neg (show ¬ x = 3 from h 3 (by omega) (by omega)), if_neg (show ¬ x = 4 from h 4 (by omega) (by omega)), if_neg (show ¬ x = 5 from h 5 (by omega) (by omega)), if_neg (show ¬ x = 6 from h 6 (by omega) (by omega)), if_neg (show ¬ x = 7 from h 7 (by omega) (by omega)), if_neg (show ¬ x = 8 from h 8 (by omega) (by omega)), if_neg (show ¬ x = 9 from h 9 (by omega) (by omega)), if_neg (show ¬ x = 10 from h 10 (by omega) (by omega)), if_neg (show ¬ x = 17 from h 17 (by omega) (by omega))]
theorem case_0 {α : Type} {X0 X1 X2 X3 X4 X5 X6 X7 X8 X9 X10 X17 D : Option α} : mm_case (nI 0) [0, 1, 2, 3, 4, 5, 6, 7, 8, 9, 10, 17] [X0, X1, X2, X3, X4, X5, X6, X7, X8, X9, X10, X17] D = X0 := by
  unfold mm_case
  rw [if_pos (show nI 0 = 0 from rfl)]
theorem case_1 {α : Type} {X0 X1 X2 X3 X4 X5 X6 X7 X8 X9 X10 X17 D : Option α} : mm_case (nI 1) [0, 1, 2, 3, 4, 5, 6, 7, 8, 9, 10, 17] [X0, X1, X2, X3, X4, X5, X6, X7, X8, X9, X10, X17] D = X1 := by
  unfold mm_case mm_case
  rw [if_neg (show ¬ nI 1 = 0 from ne_ (a := 1) (b := 0) (by omega) (by omega) (by omega)), if_pos (show nI 1 = 1 from rfl)]
theorem case_2 {α : Type} {X0 X1 X2 X3 X4 X5 X6 X7 X8 X9 X10 X17 D : Option α} : mm_case (nI 2) [0, 1, 2, 3, 4, 5, 6, 7, 8, 9, 10, 17] [X0, X1, X2, X3, X4, X5, X6, X7, X8, X9, X10, X17] D = X2 := by
  unfold mm_case mm_case mm_case
  rw [if_neg (show ¬ nI 2 = 0 from ne_ (a := 2) (b := 0) (by omega) (by omega) (by omega)), if_neg (show ¬ nI 2 = 1 from ne_ (a := 2) (b := 1) (by omega) (by omega) (by omega)), if_pos (show nI 2 = 2 from rfl)]
theorem case_3 {α : Type} {X0 X1 X2 X3 X4 X5 X6 X7 X8 X9 X10 X17 D : Option α} : mm_case (nI 3) [0, 1, 2, 3, 4, 5, 6, 7, 8, 9, 10, 17] [X0, X1, X2, X3, X4, X5, X6, X7, X8, X9, X10, X17] D = X3 := by
  unfold mm_case mm_case mm_case mm_case
  rw [if_neg (show ¬ nI 3 = 0 from ne_ (a := 3) (b := 0) (by omega) (by omega) (by omega)), if_neg (show ¬ nI 3 = 1 from ne_ (a := 3) (b := 1) (by omega) (by omega) (by omega)), if_neg (show ¬ nI 3 = 2 from ne_ (a := 3) (b := 2) (by omega) (by omega) (by omega)), if_pos (show nI 3 = 3 from rfl)]
theorem case_4 {α : Type} {X0 X1 X2 X3 X4 X5 X6 X7 X8 X9 X10 X17 D : Option α} : mm_case (nI 4) [0, 1, 2, 3, 4, 5, 6, 7, 8, 9, 10, 17] [X0, X1, X2, X3, X4, X5, X6, X7, X8, X9, X10, X17] D = X4 := by
  unfold mm_case mm_case mm_case mm_case mm_case
  rw [if_neg (show ¬ nI 4 = 0 from ne_ (a := 4) (b := 0) (by omega) (by omega) (by omega)), if_neg (show ¬ nI 4 = 1 from ne_ (a := 4) (b := 1) (by omega) (by omega) (by omega)), if_neg (show ¬ nI 4 = 2 from ne_ (a := 4) (b := 2) (by omega) (by omega) (by omega)), if_neg (show ¬ nI 4 = 3 from ne_ (a := 4) (b := 3) (by omega) (by omega) (by omega)), if_pos (show nI 4 = 4 from rfl)]
theorem case_5 {α : Type} {X0 X1 X2 X3 X4 X5 X6 X7 X8 X9 X10 X17 D : Option α} : mm_case (nI 5) [0, 1, 2, 3, 4, 5, 6, 7, 8, 9, 10, 17] [X0, X1, X2, X3, X4, X5, X6, X7, X8, X9, X10, X17] D = X5 := by
  unfold mm_case mm_case mm_case mm_case mm_case mm_case
  rw [if_neg (show ¬ nI 5 = 0 from ne_ (a := 5) (b := 0) (by omega) (by omega) (by omega)), if_neg (show ¬ nI 5 = 1 from ne_ (a := 5) (b := 1) (by omega) (by omega) (by omega)), if_neg (show ¬ nI 5 = 2 from ne_ (a := 5) (b := 2) (by omega) (by omega) (by omega)), if_neg (show ¬ nI 5 = 3 from ne_ (a := 5) (b := 3) (by omega) (by omega) (by omega)), if_neg (show ¬ nI 5 = 4 from ne_ (a := 5) (b := 4) (by omega) (by omega) (by omega)), if_pos (show nI 5 = 5 from rfl)]
theorem case_6 {α : Type} {X0 X1 X2 X3 X4 X5 X6 X7 X8 X9 X10 X17 D : Option α} : mm_case (nI 6) [0, 1, 2, 3, 4, 5, 6, 7, 8, 9, 10, 17] [X0, X1, X2, X3, X4, X5, X6, X7, X8, X9, X10, X17] D = X6 := by
  unfold mm_case mm_case mm_case mm_case mm_case mm_case mm_case
  rw [if_neg (show ¬ nI 6 = 0 from ne_ (a := 6) (b := 0) (by omega) (by omega) (by omega)), if_neg (show ¬ nI 6 = 1 from ne_ (a := 6) (b := 1) (by omega) (by omega) (by omega)), if_neg (show ¬ nI 6 = 2 from ne_ (a := 6) (b := 2) (by omega) (by omega) (by omega)), if_neg (show ¬ nI 6 = 3 from ne_ (a := 6) (b := 3) (by omega) (by omega) (by omega)), if_neg (show ¬ nI 6 = 4 from ne_ (a := 6) (b := 4) (by omega) (by omega) (by omega)), if_neg (show ¬ nI 6 = 5 from ne_ (a := 6) (b := 5) (by omega) (by omega) (by omega)), if_pos (show nI 6 = 6 from rfl)]
theorem case_7 {α : Type} {X0 X1 X2 X3 X4 X5 X6 X7 X8 X9 X10 X17 D : Option α} : mm_case (nI 7) [0, 1, 2, 3, 4, 5, 6, 7, 8, 9, 10, 17] [X0, X1, X2, X3, X4, X5, X6, X7, X8, X9, X10, X17] D = X7 := by
  unfold mm_case mm_case mm_case mm_case mm_case mm_case mm_case mm_case
  rw [if_neg (show ¬ nI 7 = 0 from ne_ (a := 7) (b := 0) (by omega) (by omega) (by omega)), if_neg (show ¬ nI 7 = 1 from ne_ (a := 7) (b := 1) (by omega) (by omega) (by omega)), if_neg (show ¬ nI 7 = 2 from ne_ (a := 7) (b := 2) (by omega) (by omega) (by omega)), if_neg (show ¬ nI 7 = 3 from ne_ (a := 7) (b := 3) (by omega) (by omega) (by omega)), if_neg (show ¬ nI 7 = 4 from ne_ (a := 7) (b := 4) (by omega) (by omega) (by omega)), if_neg (show ¬ nI 7 = 5 from ne_ (a := 7) (b := 5) (by omega) (by omega) (by omega)), if_neg (show ¬ nI 7 = 6 from ne_ (a := 7) (b := 6) (by omega) (by omega) (by omega)), if_pos (show nI 7 = 7 from rfl)]
theorem case_8 {α : Type} {X0 X1 X2 X3 X4 X5 X6 X7 X8 X9 X10 X17 D : Option α} : mm_case (nI 8) [0, 1, 2, 3, 4, 5, 6, 7, 8, 9, 10, 17] [X0, X1, X2, X3, X4, X5, X6, X7, X8, X9, X10, X17] D = X8 := by
  unfold mm_case mm_case mm_case mm_case mm_case mm_case mm_case mm_case mm_case
  rw [if_neg (show ¬ nI 8 = 0 from ne_ (a := 8) (b := 0) (by omega) (by omega) (by omega)), if_neg (show ¬ nI 8 = 1 from ne_ (a := 8) (b := 1) (by omega) (by omega) (by omega)), if_neg (show ¬ nI 8 = 2 from ne_ (a := 8) (b := 2) (by omega) (by omega) (by omega)), if_neg (show ¬ nI 8 = 3 from ne_ (a := 8) (b := 3) (by omega) (by omega) (by omega)), if_neg (show ¬ nI 8 = 4 from ne_ (a := 8) (b := 4) (by omega) (by omega) (by omega)), if_neg (show ¬ nI 8 = 5 from ne_ (a := 8) (b := 5) (by omega) (by omega) (by omega)), if_neg (show ¬ nI 8 = 6 from ne_ (a := 8) (b := 6) (by omega) (by omega) (by omega)), if_neg (show ¬ nI 8 = 7 from ne_ (a := 8) (b := 7) (by omega) (by omega) (by omega)), if_pos (show nI 8 = 8 from rfl)]
theorem case_9 {α : Type} {X0 X1 X2 X3 X4 X5 X6 X7 X8 X9 X10 X17 D : Option α} : mm_case (nI 9) [0, 1, 2, 3, 4, 5, 6, 7, 8, 9, 10, 17] [X0, X1, X2, X3, X4, X5, X6, X7, X8, X9, X10, X17] D = X9 := by
  unfold mm_case mm_case mm_case mm_case mm_case mm_case mm_case mm_case mm_case mm_case
  rw [if_neg (show ¬ nI 9 = 0 from ne_ (a := 9) (b := 0) (by omega) (by omega) (by omega)), if_neg (show ¬ nI 9 = 1 from ne_ (a := 9) (b := 1) (by omega) (by omega) (by omega)), if_neg (show ¬ nI 9 = 2 from ne_ (a := 9) (b := 2) (by omega) (by omega) (by omega)), if_neg (show ¬ nI 9 = 3 from ne_ (a := 9) (b := 3) (by omega) (by omega) (by omega)), if_neg (show ¬ nI 9 = 4 from ne_ (a := 9) (b := 4) (by omega) (by omega) (by omega)), if_neg (show ¬ nI 9 = 5 from ne_ (a := 9) (b := 5) (by omega) (by omega) (by omega)), if_neg (show ¬ nI 9 = 6 from ne_ (a := 9) (b := 6) (by omega) (by omega) (by omega)), if_neg (show ¬ nI 9 = 7 from ne_ (a := 9) (b := 7) (by omega) (by omega) (by omega)), if_neg (show ¬ nI 9 = 8 from ne_ (a := 9) (b := 8) (by omega) (by omega) (by omega)), if_pos (show nI 9 = 9 from rfl)]
theorem case_10 {α : Type} {X0 X1 X2 X3 X4 X5 X6 X7 X8 X9 X10 X17 D : Option α} : mm_case (nI 10) [0, 1, 2, 3, 4, 5, 6, 7, 8, 9, 10, 17] [X0, X1, X2, X3, X4, X5, X6, X7, X8, X9, X10, X17] D = X10 := by
  unfold mm_case mm_case mm_case mm_case mm_case mm_case mm_case mm_case mm_case mm_case mm_case
  rw [if_neg (show ¬ nI 10 = 0 from ne_ (a := 10) (b := 0) (by omega) (by omega) (by omega)), if_neg (show ¬ nI 10 = 1 from ne_ (a := 10) (b := 1) (by omega) (by omega) (by omega)), if_neg (show ¬ nI 10 = 2 from ne_ (a := 10) (b := 2) (by omega) (by omega) (by omega)), if_neg (show ¬ nI 10 = 3 from ne_ (a := 10) (b := 3) (by omega) (by omega) (by omega)), if_neg (show ¬ nI 10 = 4 from ne_ (a := 10) (b := 4) (by omega) (by omega) (by omega)), if_neg (show ¬ nI 10 = 5 from ne_ (a := 10) (b := 5) (by omega) (by omega) (by omega)), if_neg (show ¬ nI 10 = 6 from ne_ (a := 10) (b := 6) (by omega) (by omega) (by omega)), if_neg (show ¬ nI 10 = 7 from ne_ (a := 10) (b := 7) (by omega) (by omega) (by omega)), if_neg (show ¬ nI 10 = 8 from ne_ (a := 10) (b := 8) (by omega) (by omega) (by omega)), if_neg (show ¬ nI 10 = 9 from ne_ (a := 10) (b := 9) (by omega) (by omega) (by omega)), if_pos (show nI 10 = 10 from rfl)]
theorem case_17 {α : Type} {X0 X1 X2 X3 X4 X5 X6 X7 X8 X9 X10 X17 D : Option α} : mm_case (nI 17) [0, 1, 2, 3, 4, 5, 6, 7, 8, 9, 10, 17] [X0, X1, X2, X3, X4, X5, X6, X7, X8, X9, X10, X17] D = X17 := by
  unfold mm_case mm_case mm_case mm_case mm_case mm_case mm_case mm_case mm_case mm_case mm_case mm_case
  rw [if_neg (show ¬ nI 17 = 0 from ne_ (a := 17) (b := 0) (by omega) (by omega) (by omega)), if_neg (show ¬ nI 17 = 1 from ne_ (a := 17) (b := 1) (by omega) (by omega) (by omega)), if_neg (show ¬ nI 17 = 2 from ne_ (a := 17) (b := 2) (by omega) (by omega) (by omega)), if_neg (show ¬ nI 17 = 3 from ne_ (a := 17) (b := 3) (by omega) (by omega) (by omega)), if_neg (show ¬ nI 17 = 4 from ne_ (a := 17) (b := 4) (by omega) (by omega) (by omega)), if_neg (show ¬ nI 17 = 5 from ne_ (a := 17) (b := 5) (by omega) (by omega) (by omega)), if_neg (show ¬ nI 17 = 6 from ne_ (a := 17) (b := 6) (by omega) (by omega) (by omega)), if_neg (show ¬ nI 17 = 7 from ne_ (a := 17) (b := 7) (by omega) (by omega) (by omega)), if_neg (show ¬ nI 17 = 8 from ne_ (a := 17) (b := 8) (by omega) (by omega) (by omega)), if_neg (show ¬ nI 17 = 9 from ne_ (a := 17) (b := 9) (by omega) (by omega) (by omega)), if_neg (show ¬ nI 17 = 10 from ne_ (a := 17) (b := 10) (by omega) (by omega) (by omega)), if_pos (show nI 17 = 17 from rfl)]
theorem ok_count (a : Int32) : op_i Rel (f_X11_count a) (f_X12_count a) := by
  intro C R h
  unfold f_X12_count
  rw [let_]
  have h := rel_t h 0
  generalize sI R 0 0 0 = R at h ⊢
  show ends _ _
  unfold f_X11_count
  try unfold mI
  have h' := h
  obtain ⟨⟨⟨bd, bn, bt, bu, bv, bw, bl⟩, ⟨sa, sb, sc, sd, se, sf, sg, sh⟩, ⟨ka, kb, kc, kd, ke⟩, ⟨ta, tb, tc, td, te, tf, tg⟩, ⟨ra, rb, rc, rd, re_, rf⟩, ⟨qa, qb, qc, qd, qe⟩⟩, hr, hl, hw, d, n, t, u, v, w, ⟨⟨⟨id1, id2⟩, ⟨in1, in2⟩, ⟨it1, it2⟩, ⟨iu1, iu2⟩, ⟨iv1, iv2⟩, ⟨iw1, iw2⟩, ilv⟩, jS, jK, jT, jR, jC, jB, jM, jD, jL⟩, hrule, hhome⟩ := h'
  unfold f_X11_count_22 mI
  simp only [bi_id]
  have hn := bn.trans in1
  have ht := bt.trans it1
  have hgood : ∀ f, f ≤ 1 → ends (f_X11_goodNow (nI f) C) (mm_bv (f_X12_weigh (R.1 0 1) R) (fun M => f_X12_count_164 mm_fu (nI (7 + f)) 0 0 M)) := by
    intro f hf
    obtain ⟨C', R', g1, g2, g3, g4, g5, g6, g7, g8⟩ := weigh_two h (R.1 0 1) in1 in2 it1 it2 (Nat.le_refl t)
    obtain ⟨r, r1, r2⟩ := good_l (C := C') (R := R') hf (by rw [g3 4 rfl]; exact ht) (by rw [g4.2 43 rfl]; exact it1) it2 (fun j hj => (g5 j hj).1) (by rw [g3 43 rfl, g4.1 32 rfl]; exact te) (fun j hj => by rw [g4.1 32 rfl]; exact (jT.1 j hj).choose_spec.choose_spec.choose_spec.2.2.2.2.2.2.2.2.2.1) t 0 0 mm_fu mm_fu (by omega) (fuGt (by omega)) (fuGt (by omega))
    unfold f_X11_goodNow mI
    rw [bd, ht, g1, g2, bv_, bv_, show f_X11_goodNow_22 mm_fu (nI f) 0 0 C' = _ from r1, show f_X12_count_164 mm_fu (nI (7 + f)) 0 0 R' = _ from r2]
    exact ends_k h g3 g4
  have hvoid : ends (f_X9_voidedOnes C) (mm_bv (f_X12_weigh (R.1 0 1) R) (fun M => f_X12_count_164 mm_fu (nI 6) 0 0 M)) := by
    obtain ⟨C', R', g1, g2, g3, g4, g5, g6, g7, g8⟩ := weigh_two h (R.1 0 1) in1 in2 it1 it2 (Nat.le_refl t)
    obtain ⟨r, r1, r2⟩ := void_l (C := C) (R := R') id2 ht (by rw [g4.2 43 rfl]; exact it1) it2 (by rw [g4.1 34 rfl]; exact tg) (fun j hj => by rw [g4.1 34 rfl]; exact (jT.1 j hj).choose_spec.choose_spec.choose_spec.2.2.2.2.2.2.2.2.2.2.2) t 0 0 mm_fu mm_fu (by omega) (fuGt (by omega)) (fuGt (by omega))
    unfold f_X9_voidedOnes
    rw [g2, bv_, show f_X9_voidedOnes_4 mm_fu 0 0 C = _ from r1, show f_X12_count_164 mm_fu (nI 6) 0 0 R' = _ from r2]
    exact ends_k h (kC_r C) g4
  rcases ix_of a (n := 18) (by omega) with ⟨m, hm, rfl⟩ | ha
  · have big : ∀ X Y : Option (Int32 × mm_M), ¬ (11 ≤ m ∧ m ≤ 16) → (if nI m < 11 then X else if 16 < nI m then X else Y) = X := by
      intro X Y hX
      by_cases e : m < 11
      · rw [if_pos (show nI m < 11 from nI_lt (b := 11) e (by omega))]
      · rw [if_neg (show ¬ nI m < 11 from nI_nlt (b := 11) (by omega) (by omega)), if_pos (show (16 : Int32) < nI m from nI_lt (a := 16) (by omega) (by omega))]
    by_cases hr11 : 11 ≤ m ∧ m ≤ 16
    · rw [if_neg (show ¬ nI m < 11 from nI_nlt (b := 11) (by omega) (by omega)), if_neg (show ¬ (16 : Int32) < nI m from nI_nlt (a := 16) (by omega) (by omega)), show nI m - 11 = nI (m - 11) from pk_sub (b := 11) (by omega), ckI (by omega) (by omega), clI (by omega), case12 (fun k hk hk2 q => by have := (nI_eq (by omega) (by omega)).mp q; omega), in_y R (show (11 : Int32) ≤ nI m from nI_le (a := 11) (by omega) (by omega)) (show nI m ≤ 16 from nI_le (b := 16) (by omega) (by omega)), bi_, if_neg n10, show nI m - 10 = nI (m - 10) from pk_sub (b := 10) (by omega), ckI (by omega) (by omega), clI (by omega)]
      rw [hr (m - 11) (by omega), show m - 11 + 1 = m - 10 by omega]
      exact ends_of h
    · rw [big _ _ hr11]
      rcases (show m = 0 ∨ m = 1 ∨ m = 2 ∨ m = 3 ∨ m = 4 ∨ m = 5 ∨ m = 6 ∨ m = 7 ∨ m = 8 ∨ m = 9 ∨ m = 10 ∨ m = 17 by omega) with rfl | rfl | rfl | rfl | rfl | rfl | rfl | rfl | rfl | rfl | rfl | rfl
      · rw [case_0, case_0]
        rw [bd]
        exact ends_of h
      · rw [case_1, case_1]
        rw [bn]
        exact ends_of h
      · rw [case_2, case_2]
        rw [openOnes_ok hn in2, openMany_ok in1 in2, sf]
        exact ends_of h
      · rw [case_3, case_3]
        have k1 := told_c (C := C) 8 0 mm_fu (by omega) (fuGt (by omega))
        have k2 := told_r (R := R) 8 0 mm_fu (by omega) (fuGt (by omega))
        unfold f_X0_toldOnes
        rw [show f_X0_toldOnes_4 mm_fu 0 0 C = _ from k1, show f_X12_count_113 mm_fu 0 0 R = _ from k2, ka]
        exact ends_of h
      · rw [case_4, case_4]
        rw [bu]
        exact ends_of h
      · rw [case_5, case_5]
        rw [bt]
        exact ends_of h
      · rw [case_6, case_6]
        exact hvoid
      · rw [case_7, case_7]
        exact hgood 0 (by omega)
      · rw [case_8, case_8]
        exact hgood 1 (by omega)
      · rw [case_9, case_9, show f_X12_count_235 mm_fu (nI 9) 0 0 R = _ from c235 (nI 9) 15 (Or.inl ⟨rfl, rfl⟩), hw.1]
        exact ends_of h
      · rw [case_10, case_10, show f_X12_count_235 mm_fu (nI 10) 0 0 R = _ from c235 (nI 10) 47 (Or.inr ⟨show ¬ nI 10 = 9 from ne_ (a := 10) (b := 9) (by omega) (by omega) (by omega), rfl⟩), show C.1 0 15 = _ from hl]
        exact ends_of h
      · rw [case_17, case_17, bv]
        exact ends_of h
  · have hno : ∀ k : Nat, k < 18 → ¬ a = nI k := by
      intro k hk q
      subst q
      rcases ha with z | z
      · exact nI_pos (by omega) z
      · exact nI_ge hk (by omega) z
    rw [case12 (fun k hk _ => hno k hk), case12 (fun k hk _ => hno k hk)]
    have hin : f_X12_in a 11 16 R = some (0, R) := by
      refine in_n R ?_
      rcases ha with z | z
      · refine Or.inl ?_
        rw [Int32.lt_iff_toInt_lt] at z ⊢
        have : (0 : Int32).toInt = 0 := rfl
        have : (11 : Int32).toInt = 11 := rfl
        omega
      · refine Or.inr ?_
        rw [Int32.le_iff_toInt_le] at z
        rw [Int32.lt_iff_toInt_lt]
        have : (nI 18).toInt = 18 := by decide +kernel
        have : (16 : Int32).toInt = 16 := rfl
        omega
    rw [hin, bi_, if_pos rfl]
    have : ∀ X Y : Option (Int32 × mm_M), (if a < 11 then X else if 16 < a then X else Y) = X := by
      intro X Y
      rcases ha with z | z
      · rw [if_pos]
        rw [Int32.lt_iff_toInt_lt] at z ⊢
        have : (0 : Int32).toInt = 0 := rfl
        have : (11 : Int32).toInt = 11 := rfl
        omega
      · rw [if_neg, if_pos]
        · rw [Int32.le_iff_toInt_le] at z
          rw [Int32.lt_iff_toInt_lt]
          have : (nI 18).toInt = 18 := by decide +kernel
          have : (16 : Int32).toInt = 16 := rfl
          omega
        · rw [Int32.le_iff_toInt_le] at z
          rw [Int32.lt_iff_toInt_lt]
          have : (nI 18).toInt = 18 := by decide +kernel
          have : (11 : Int32).toInt = 11 := rfl
          omega
    rw [this]
    exact ends_of h

theorem fill_73 (M : mm_M) (v : Int32) : ∃ M', f_J7_fill_53178_73 v M = some M' ∧ (∀ j, j < 10 → M'.1 73 j = v) ∧ ∀ a, a ≠ 73 → M'.1 a = M.1 a := by
  unfold f_J7_fill_53178_73
  refine lpMf (fun n s X => f_J7_fill_53178_73_5 n v (nI s) 10 X) (fun s X => (∀ j, j < s → X.1 73 j = v) ∧ ∀ a, a ≠ 73 → X.1 a = M.1 a) (fun b => ∃ M', b = some M' ∧ (∀ j, j < 10 → M'.1 73 j = v) ∧ ∀ a, a ≠ 73 → M'.1 a = M.1 a) (c := 10) M (by omega) ⟨fun j hj => absurd hj (by omega), fun _ _ => rfl⟩ ?_ ?_
  · intro s m X hs hI ih
    show ∃ M', f_J7_fill_53178_73_5 (m + 1) v (nI s) 10 X = some M' ∧ _
    unfold f_J7_fill_53178_73_5
    rw [if_neg (show ¬ (10 : Int32) ≤ nI s from nI_ge (b := 10) hs (by omega))]
    simp (disch := omega) only [mI, let_, bi_, bv_, ckI, clI, s1, s2, l1, l2, upd_at, Nat.reduceEqDiff, reduceIte, add1, ax13, ax_2, ax_3, ax_4, ax_5, ax_6, ax_7, ax_8, ax_9, ax_10, ax_11, ax_12]
    refine ih _ ⟨fun j hj => ?_, fun a ha => ?_⟩
    · simp (disch := omega) only [mI, let_, bi_, bv_, ckI, clI, s1, s2, l1, l2, upd_at, Nat.reduceEqDiff, reduceIte, add1, ax13, ax_2, ax_3, ax_4, ax_5, ax_6, ax_7, ax_8, ax_9, ax_10, ax_11, ax_12]
      by_cases e : j = s
      · rw [if_pos e]
      · rw [if_neg e]
        exact hI.1 j (by omega)
    · simp (disch := omega) only [mI, let_, bi_, bv_, ckI, clI, s1, s2, l1, l2, upd_at, Nat.reduceEqDiff, reduceIte, add1, ax13, ax_2, ax_3, ax_4, ax_5, ax_6, ax_7, ax_8, ax_9, ax_10, ax_11, ax_12, ha]
      exact hI.2 a ha
  · intro m X hI
    show ∃ M', f_J7_fill_53178_73_5 (m + 1) v (nI 10) 10 X = some M' ∧ _
    unfold f_J7_fill_53178_73_5
    rw [if_pos (show (10 : Int32) ≤ nI 10 by decide +kernel)]
    exact ⟨X, rfl, hI⟩
theorem fill_74 (M : mm_M) (v : Int32) : ∃ M', f_J7_fill_53178_74 v M = some M' ∧ (∀ j, j < 10 → M'.1 74 j = v) ∧ ∀ a, a ≠ 74 → M'.1 a = M.1 a := by
  unfold f_J7_fill_53178_74
  refine lpMf (fun n s X => f_J7_fill_53178_74_5 n v (nI s) 10 X) (fun s X => (∀ j, j < s → X.1 74 j = v) ∧ ∀ a, a ≠ 74 → X.1 a = M.1 a) (fun b => ∃ M', b = some M' ∧ (∀ j, j < 10 → M'.1 74 j = v) ∧ ∀ a, a ≠ 74 → M'.1 a = M.1 a) (c := 10) M (by omega) ⟨fun j hj => absurd hj (by omega), fun _ _ => rfl⟩ ?_ ?_
  · intro s m X hs hI ih
    show ∃ M', f_J7_fill_53178_74_5 (m + 1) v (nI s) 10 X = some M' ∧ _
    unfold f_J7_fill_53178_74_5
    rw [if_neg (show ¬ (10 : Int32) ≤ nI s from nI_ge (b := 10) hs (by omega))]
    simp (disch := omega) only [mI, let_, bi_, bv_, ckI, clI, s1, s2, l1, l2, upd_at, Nat.reduceEqDiff, reduceIte, add1, ax13, ax_2, ax_3, ax_4, ax_5, ax_6, ax_7, ax_8, ax_9, ax_10, ax_11, ax_12]
    refine ih _ ⟨fun j hj => ?_, fun a ha => ?_⟩
    · simp (disch := omega) only [mI, let_, bi_, bv_, ckI, clI, s1, s2, l1, l2, upd_at, Nat.reduceEqDiff, reduceIte, add1, ax13, ax_2, ax_3, ax_4, ax_5, ax_6, ax_7, ax_8, ax_9, ax_10, ax_11, ax_12]
      by_cases e : j = s
      · rw [if_pos e]
      · rw [if_neg e]
        exact hI.1 j (by omega)
    · simp (disch := omega) only [mI, let_, bi_, bv_, ckI, clI, s1, s2, l1, l2, upd_at, Nat.reduceEqDiff, reduceIte, add1, ax13, ax_2, ax_3, ax_4, ax_5, ax_6, ax_7, ax_8, ax_9, ax_10, ax_11, ax_12, ha]
      exact hI.2 a ha
  · intro m X hI
    show ∃ M', f_J7_fill_53178_74_5 (m + 1) v (nI 10) 10 X = some M' ∧ _
    unfold f_J7_fill_53178_74_5
    rw [if_pos (show (10 : Int32) ≤ nI 10 by decide +kernel)]
    exact ⟨X, rfl, hI⟩
/-- who stands -/
def clS (wh sh fr to_ da : Nat → Int32) (s h e : Int32) : Nat → Int32
  | 0 => -1
  | i + 1 => if sh i = s ∧ ¬ h < fr i ∧ ¬ to_ i ≤ h ∧ ¬ e < da i then wh i else clS wh sh fr to_ da s h e i
theorem clS_r {n w : Nat} {wh sh fr to_ da : Nat → Int32} (h : iClerk n w wh sh fr to_ da) (s g e : Int32) : ∀ i, i ≤ w → clS wh sh fr to_ da s g e i = -1 ∨ ∃ k, k < 10 ∧ clS wh sh fr to_ da s g e i = nI k := by
  intro i
  induction i with
  | zero => exact fun _ => Or.inl rfl
  | succ i ih =>
    intro hi
    show (if sh i = s ∧ ¬ g < fr i ∧ ¬ to_ i ≤ g ∧ ¬ e < da i then wh i else clS wh sh fr to_ da s g e i) = -1 ∨ ∃ k, k < 10 ∧ (if sh i = s ∧ ¬ g < fr i ∧ ¬ to_ i ≤ g ∧ ¬ e < da i then wh i else clS wh sh fr to_ da s g e i) = nI k
    split
    · obtain ⟨⟨k, k1, k2, k3⟩, _⟩ := h i (by omega)
      exact Or.inr ⟨k, by omega, k1⟩
    · exact ih (by omega)
def m9 (x : Int32) : Int32 := if x = -1 then -9 else x
theorem stand_c {C : mm_M} {n w : Nat} (hw : C.1 13 7 = nI w) (hw4 : w ≤ 40) (hi : iClerk n w (C.1 68) (C.1 69) (C.1 70) (C.1 71) (C.1 72)) (s g e : Int32) : f_X1_standing s g e C = some (m9 (clS (C.1 68) (C.1 69) (C.1 70) (C.1 71) (C.1 72) s g e w), C) := by
  unfold f_X1_standing
  refine lpf (fun m i => f_X1_standing_7 m s g e (m9 (clS (C.1 68) (C.1 69) (C.1 70) (C.1 71) (C.1 72) s g e i)) (nI i) C) (c := w) (by omega) ?_ ?_
  · intro i m hi'
    show f_X1_standing_7 (m + 1) _ _ _ _ _ _ = f_X1_standing_7 m _ _ _ _ _ _
    have hl : clS (C.1 68) (C.1 69) (C.1 70) (C.1 71) (C.1 72) s g e (i + 1) = if C.1 69 i = s ∧ ¬ g < C.1 70 i ∧ ¬ C.1 71 i ≤ g ∧ ¬ e < C.1 72 i then C.1 68 i else clS (C.1 68) (C.1 69) (C.1 70) (C.1 71) (C.1 72) s g e i := rfl
    conv => lhs; unfold f_X1_standing_7 f_X1_standing_69
    rw [show mI C 13 7 = nI w from hw, if_neg (nI_ge hi' (by omega)), hl]
    simp (disch := omega) only [mI, let_, bi_, bv_, ckI, clI, s1, s2, l1, l2, upd_at, Nat.reduceEqDiff, reduceIte, add1, ax13, ax_2, ax_3, ax_4, ax_5, ax_6, ax_7, ax_8, ax_9, ax_10, ax_11, ax_12]
    by_cases z1 : C.1 69 i = s
    · rw [if_pos z1]
      by_cases z2 : g < C.1 70 i
      · rw [if_pos z2, if_neg (fun q => q.2.1 z2)]
      · rw [if_neg z2]
        by_cases z3 : C.1 71 i ≤ g
        · rw [if_pos z3, if_neg (fun q => q.2.2.1 z3)]
        · rw [if_neg z3]
          by_cases z4 : e < C.1 72 i
          · rw [if_pos z4, if_neg (fun q => q.2.2.2 z4)]
          · rw [if_neg z4, if_pos ⟨z1, z2, z3, z4⟩]
            obtain ⟨⟨k, k1, k2, k3⟩, _⟩ := hi i hi'
            unfold m9
            rw [k1, if_neg (nI_m1 (by omega))]
    · rw [if_neg z1, if_neg (fun q => z1 q.1)]
  · intro m
    show f_X1_standing_7 (m + 1) _ _ _ _ (nI w) _ = _
    unfold f_X1_standing_7 mI
    rw [hw, if_pos (nI_le (by omega) (by omega))]
theorem clerk_r {R : mm_M} {n w j b : Nat} (hw : R.1 0 70 = nI w) (hw4 : w ≤ 40) (hi : iClerk n w (R.1 49) (R.1 50) (R.1 51) (R.1 52) (R.1 53)) (hj : j < 100) (hb : R.1 31 j = nI b) (hb2 : b ≤ 23) : f_X12_clerkOf (nI j) R = some (clS (R.1 49) (R.1 50) (R.1 51) (R.1 52) (R.1 53) (R.1 28 j) (R.1 31 j) (R.1 30 j) w, R) := by
  unfold f_X12_clerkOf
  refine lpf (fun m i => f_X12_clerkOf_4 m (nI j) (clS (R.1 49) (R.1 50) (R.1 51) (R.1 52) (R.1 53) (R.1 28 j) (R.1 31 j) (R.1 30 j) i) (nI i) R) (c := w) (by omega) ?_ ?_
  · intro i m hi'
    show f_X12_clerkOf_4 (m + 1) _ _ _ _ = f_X12_clerkOf_4 m _ _ _ _
    have hl : clS (R.1 49) (R.1 50) (R.1 51) (R.1 52) (R.1 53) (R.1 28 j) (R.1 31 j) (R.1 30 j) (i + 1) = if R.1 50 i = R.1 28 j ∧ ¬ R.1 31 j < R.1 51 i ∧ ¬ R.1 52 i ≤ R.1 31 j ∧ ¬ R.1 30 j < R.1 53 i then R.1 49 i else clS (R.1 49) (R.1 50) (R.1 51) (R.1 52) (R.1 53) (R.1 28 j) (R.1 31 j) (R.1 30 j) i := rfl
    obtain ⟨_, _, ⟨x, x1, x2, x3⟩, ⟨y, y1, y2, y3⟩, _⟩ := hi i hi'
    conv => lhs; unfold f_X12_clerkOf_4 f_X12_clerkOf_72 f_X12_clerkOf_73 f_X12_clerkOf_90
    rw [show mI R 0 70 = nI w from hw, if_neg (nI_ge hi' (by omega)), hl]
    simp (disch := omega) only [mI, let_, bi_, bv_, ckI, clI, s1, s2, l1, l2, upd_at, Nat.reduceEqDiff, reduceIte, add1, ax13, ax_2, ax_3, ax_4, ax_5, ax_6, ax_7, ax_8, ax_9, ax_10, ax_11, ax_12]
    simp only [n10, reduceIte]
    by_cases z1 : R.1 50 i = R.1 28 j
    · rw [if_pos z1]
      by_cases z2 : R.1 31 j < R.1 51 i
      · rw [in_n R (Or.inl z2), bi_, if_pos rfl, if_neg (fun q => q.2.1 z2)]
      · by_cases z3 : R.1 52 i ≤ R.1 31 j
        · rw [in_n R (Or.inr (by
            rw [y1, hb] at z3
            have := (nI_leI (by omega) (by omega)).mp z3
            rw [y1, hb, sub1 (by omega)]
            exact nI_lt (by omega) (by omega))), bi_, if_pos rfl, if_neg (fun q => q.2.2.1 z3)]
        · rw [in_y R (nlt_of.mp z2) (by
            rw [y1, hb] at z3
            have : ¬ y ≤ b := fun q => z3 (nI_le q (by omega))
            rw [y1, hb, sub1 (by omega)]
            exact nI_le (by omega) (by omega)), bi_, if_neg n10]
          by_cases z4 : R.1 30 j < R.1 53 i
          · rw [if_pos z4, if_neg (fun q => q.2.2.2 z4)]
          · rw [if_neg z4, if_pos ⟨z1, z2, z3, z4⟩]
    · rw [if_neg z1, if_neg (fun q => z1 q.1)]
  · intro m
    show f_X12_clerkOf_4 (m + 1) _ _ (nI w) _ = _
    unfold f_X12_clerkOf_4 mI
    rw [hw, if_pos (nI_le (by omega) (by omega))]
/-- good tests of clerk c among the first; f 1: sold ones -/
def taF (gd cl bi : Nat → Int32) (c f : Nat) : Nat → Nat
  | 0 => 0
  | i + 1 => taF gd cl bi c f i + if ¬ gd i = 0 ∧ cl i = nI c ∧ (f = 0 ∨ bi i / 4 = 1) then 1 else 0
theorem taF_le (gd cl bi : Nat → Int32) (c f : Nat) : ∀ i, taF gd cl bi c f i ≤ i := by
  intro i
  induction i with
  | zero => exact Nat.le_refl _
  | succ i ih =>
    unfold taF
    split <;> omega
def clR (R : mm_M) (w j : Nat) : Int32 := clS (R.1 49) (R.1 50) (R.1 51) (R.1 52) (R.1 53) (R.1 28 j) (R.1 31 j) (R.1 30 j) w
theorem tallied_r {R : mm_M} {n w t c f : Nat} (hw : R.1 0 70 = nI w) (hw4 : w ≤ 40) (hi : iClerk n w (R.1 49) (R.1 50) (R.1 51) (R.1 52) (R.1 53)) (ht : R.1 0 43 = nI t) (ht1 : t ≤ 100) (hh : ∀ j, j < t → rng (R.1 31 j) 0 23) (hf : f ≤ 1) : f_X12_tallied (nI c) (nI f) R = some (nI (taF (R.1 36) (clR R w) (R.1 32) c f t), R) := by
  unfold f_X12_tallied
  refine lpf (fun m i => f_X12_tallied_5 m (nI c) (nI f) (nI (taF (R.1 36) (clR R w) (R.1 32) c f i)) (nI i) R) (c := t) (by omega) ?_ ?_
  · intro i m hi'
    show f_X12_tallied_5 (m + 1) _ _ _ _ _ = f_X12_tallied_5 m _ _ _ _ _
    obtain ⟨b, b1, b2, b3⟩ := hh i hi'
    have hl : taF (R.1 36) (clR R w) (R.1 32) c f (i + 1) = taF (R.1 36) (clR R w) (R.1 32) c f i + if ¬ R.1 36 i = 0 ∧ clR R w i = nI c ∧ (f = 0 ∨ R.1 32 i / 4 = 1) then 1 else 0 := rfl
    have hcl : f_X12_clerkOf (nI i) R = some (clR R w i, R) := clerk_r hw hw4 hi (by omega) b1 b3
    conv => lhs; unfold f_X12_tallied_5 f_X12_tallied_56 f_X12_tallied_52 f_X12_tallied_57
    rw [show mI R 0 43 = nI t from ht, if_neg (nI_ge hi' (by omega)), hl, hcl]
    simp (disch := omega) only [mI, let_, bi_, bv_, ckI, clI, s1, s2, l1, l2, upd_at, Nat.reduceEqDiff, reduceIte, add1, ax13, ax_2, ax_3, ax_4, ax_5, ax_6, ax_7, ax_8, ax_9, ax_10, ax_11, ax_12, ad0]
    by_cases z1 : R.1 36 i = 0
    · rw [if_pos z1, if_neg (fun q => q.1 z1)]
      rfl
    · rw [if_neg z1]
      by_cases z2 : clR R w i = nI c
      · rw [if_pos z2]
        rcases (show f = 0 ∨ f = 1 by omega) with rfl | rfl
        · rw [if_pos (show nI 0 = 0 from rfl), if_pos ⟨z1, z2, Or.inl rfl⟩]
        · rw [if_neg (show ¬ nI 1 = 0 from n10)]
          by_cases z3 : R.1 32 i / 4 = 1
          · rw [if_pos z3, if_pos ⟨z1, z2, Or.inr z3⟩]
          · rw [if_neg z3, if_neg (fun q => q.2.2.elim (by omega) z3)]
            rfl
      · rw [if_neg z2, if_neg (fun q => z2 q.2.1)]
        rfl
  · intro m
    show f_X12_tallied_5 (m + 1) _ _ _ (nI t) _ = _
    unfold f_X12_tallied_5 mI
    rw [ht, if_pos (nI_le (by omega) (by omega))]
/-- the class's tallies -/
theorem tally_c {C R : mm_M} (h : Rel C R) {n w t : Nat} (hw : R.1 0 70 = nI w) (hw4 : w ≤ 40) (hn : R.1 0 2 = nI n) (hn4 : n ≤ 40) (ht : R.1 0 43 = nI t) (ht1 : t ≤ 100) : ∃ C' R', f_X11_tallyClerks C = some C' ∧ f_X12_weigh (R.1 0 1) R = some R' ∧ kC C C' ∧ kR R R' ∧ ∀ c, c < 10 → C'.1 73 c = nI (taF (R'.1 36) (clR R' w) (R'.1 32) c 0 t) ∧ C'.1 74 c = nI (taF (R'.1 36) (clR R' w) (R'.1 32) c 1 t) := by
  obtain ⟨C1, R', g1, g2, g3, g4, g5, g6, _, _⟩ := weigh_two h (R.1 0 1) hn hn4 ht ht1 (Nat.le_refl t)
  have hrel := rel_k h g3 g4
  have hrel' := hrel
  obtain ⟨⟨⟨bd, bn, bt, bu, bv, bw, bl⟩, _, _, ⟨ta, tb, tc, td, te, tf, tg⟩, _, ⟨qa, qb, qc, qd, qe⟩⟩, _, _, _, d', n', t', u', v', w', ⟨⟨_, ⟨in1, in2⟩, ⟨it1, it2⟩, _, _, ⟨iw1, iw2⟩, _⟩, _, _, jT, _, jC, _⟩, _⟩ := hrel'
  obtain rfl : t = t' := (nI_eq (by omega) (by omega)).mp (by rw [← it1, g4.2 43 rfl]; exact ht.symm)
  obtain rfl : w = w' := (nI_eq (by omega) (by omega)).mp (by rw [← iw1, g4.2 70 rfl]; exact hw.symm)
  obtain ⟨C2, a1, a2, a3⟩ := fill_73 C1 0
  obtain ⟨C3, b1, b2, b3⟩ := fill_74 C2 0
  have k3 : kC C1 C3 := fun a ha => by rw [b3 a (neC ha rfl), a3 a (neC ha rfl)]
  have key : ∃ C', f_X11_tallyClerks_27 mm_fu (nI 0) C3 = some C' ∧ (∀ a, a ≠ 73 → a ≠ 74 → C'.1 a = C3.1 a) ∧ ∀ c, c < 10 → C'.1 73 c = nI (taF (R'.1 36) (clR R' w) (R'.1 32) c 0 t) ∧ C'.1 74 c = nI (taF (R'.1 36) (clR R' w) (R'.1 32) c 1 t) := by
    refine lpMf (fun m i X => f_X11_tallyClerks_27 m (nI i) X) (fun i X => (∀ a, a ≠ 73 → a ≠ 74 → X.1 a = C3.1 a) ∧ ∀ c, c < 10 → X.1 73 c = nI (taF (R'.1 36) (clR R' w) (R'.1 32) c 0 i) ∧ X.1 74 c = nI (taF (R'.1 36) (clR R' w) (R'.1 32) c 1 i)) (fun b => ∃ C', b = some C' ∧ (∀ a, a ≠ 73 → a ≠ 74 → C'.1 a = C3.1 a) ∧ ∀ c, c < 10 → C'.1 73 c = nI (taF (R'.1 36) (clR R' w) (R'.1 32) c 0 t) ∧ C'.1 74 c = nI (taF (R'.1 36) (clR R' w) (R'.1 32) c 1 t)) (c := t) C3 (by omega) ⟨fun _ _ _ => rfl, fun c hc => ⟨by rw [b3 73 (by omega), a2 c hc]; rfl, by rw [b2 c hc]; rfl⟩⟩ ?_ ?_
    · intro i m X hi hI ih
      obtain ⟨i1, i2⟩ := hI
      have kX : kC C1 X := kC_t k3 (fun a ha => i1 a (neC ha rfl) (neC ha rfl))
      have x17 : X.1 17 i = R'.1 36 i := by rw [i1 17 (by omega) (by omega), b3 17 (by omega), a3 17 (by omega)]; exact (g5 i hi).1
      have x47 : X.1 4 7 = nI t := by rw [kX 4 rfl]; exact bt.trans it1
      obtain ⟨s, c, e, y1, y2, y3, y4, y5, y6, y7, y8, ⟨hh, hh1, hh2, hh3⟩, ⟨b, b1', b2', b3'⟩, _⟩ := jT.1 i hi
      have xs := sold_c x47 ht1 hi (b := b) (by rw [kX 43 rfl, te]; exact b1')
      have xst := stand_c (C := X) (n := n') (w := w) (by rw [kX 13 rfl]; exact bw.trans iw1) iw2 (by rw [kX 68 rfl, kX 69 rfl, kX 70 rfl, kX 71 rfl, kX 72 rfl, qa, qb, qc, qd, qe]; exact jC) (X.1 39 i) (X.1 42 i) (X.1 41 i)
      have ecl : clS (X.1 68) (X.1 69) (X.1 70) (X.1 71) (X.1 72) (X.1 39 i) (X.1 42 i) (X.1 41 i) w = clR R' w i := by
        unfold clR
        rw [kX 68 rfl, kX 69 rfl, kX 70 rfl, kX 71 rfl, kX 72 rfl, qa, qb, qc, qd, qe, kX 39 rfl, kX 42 rfl, kX 41 rfl, ta, td, tc]
      rw [ecl] at xst
      have hl : ∀ c f, taF (R'.1 36) (clR R' w) (R'.1 32) c f (i + 1) = taF (R'.1 36) (clR R' w) (R'.1 32) c f i + if ¬ R'.1 36 i = 0 ∧ clR R' w i = nI c ∧ (f = 0 ∨ R'.1 32 i / 4 = 1) then 1 else 0 := fun c f => rfl
      show ∃ C', f_X11_tallyClerks_27 (m + 1) (nI i) X = some C' ∧ _
      unfold f_X11_tallyClerks_27 f_X11_tallyClerks_101
      rw [show mI X 4 7 = nI t from x47, if_neg (nI_ge hi (by omega))]
      simp (disch := omega) only [mI, let_, bi_, bv_, ckI, clI, s1, s2, l1, l2, upd_at, Nat.reduceEqDiff, reduceIte, add1, ax13, ax_2, ax_3, ax_4, ax_5, ax_6, ax_7, ax_8, ax_9, ax_10, ax_11, ax_12, x17]
      by_cases z1 : R'.1 36 i = 0
      · rw [if_pos z1]
        refine ih X ⟨i1, fun c hc => ?_⟩
        rw [hl, hl, if_neg (fun q => q.1 z1), if_neg (fun q => q.1 z1)]
        exact i2 c hc
      · rw [if_neg z1, xst, bi_, xs, bi_]
        unfold f_X1_addToTally
        rcases clS_r jC (R'.1 28 i) (R'.1 31 i) (R'.1 30 i) w (Nat.le_refl w) with hc1 | ⟨p, p1, p2⟩
        · have hc1' : clR R' w i = -1 := hc1
          rw [hc1', show m9 (-1) = -9 from rfl, if_pos (by decide +kernel), bv_]
          refine ih X ⟨i1, fun c hc => ?_⟩
          rw [hl, hl, if_neg (fun q => by have := q.2.1; rw [hc1'] at this; exact nI_m1 (by omega) this.symm), if_neg (fun q => by have := q.2.1; rw [hc1'] at this; exact nI_m1 (by omega) this.symm)]
          exact i2 c hc
        · have p2' : clR R' w i = nI p := p2
          have em : m9 (nI p) = nI p := if_neg (nI_m1 (by omega))
          obtain ⟨v1, v2⟩ := i2 p p1
          have hne : ∀ c, c < 10 → c ≠ p → ¬ clR R' w i = nI c := fun c hc hcp q => hcp ((nI_eq (by omega) (by omega)).mp (q.symm.trans p2'))
          rw [p2', em, if_neg (nI_pos (by omega)), if_pos (show nI p < 10 from nI_lt (b := 10) p1 (by omega))]
          rcases bit4 b3' with ⟨u1, u2⟩ | ⟨u1, u2⟩
          · rw [if_pos u1]
            simp (disch := omega) only [mI, let_, bi_, bv_, ckI, clI, s1, s2, l1, l2, upd_at, Nat.reduceEqDiff, reduceIte, add1, ax13, ax_2, ax_3, ax_4, ax_5, ax_6, ax_7, ax_8, ax_9, ax_10, ax_11, ax_12, v1, eq_self]
            refine ih _ ⟨fun a h1 h2 => ?_, fun c hc => ?_⟩
            · simp (disch := omega) only [mI, let_, bi_, bv_, ckI, clI, s1, s2, l1, l2, upd_at, Nat.reduceEqDiff, reduceIte, add1, ax13, ax_2, ax_3, ax_4, ax_5, ax_6, ax_7, ax_8, ax_9, ax_10, ax_11, ax_12, h1]
              exact i1 a h1 h2
            · simp (disch := omega) only [mI, let_, bi_, bv_, ckI, clI, s1, s2, l1, l2, upd_at, Nat.reduceEqDiff, reduceIte, add1, ax13, ax_2, ax_3, ax_4, ax_5, ax_6, ax_7, ax_8, ax_9, ax_10, ax_11, ax_12]
              rw [hl, hl]
              by_cases ec : c = p
              · subst ec
                rw [if_pos rfl, if_pos ⟨z1, p2', Or.inl rfl⟩, if_neg (fun q => q.2.2.elim (by omega) (fun y => by rw [b1', u2] at y; exact absurd y (by decide +kernel)))]
                exact ⟨rfl, v2⟩
              · rw [if_neg ec, if_neg (fun q => hne c hc ec q.2.1), if_neg (fun q => hne c hc ec q.2.1)]
                exact i2 c hc
          · rw [if_neg u1]
            simp (disch := omega) only [mI, let_, bi_, bv_, ckI, clI, s1, s2, l1, l2, upd_at, Nat.reduceEqDiff, reduceIte, add1, ax13, ax_2, ax_3, ax_4, ax_5, ax_6, ax_7, ax_8, ax_9, ax_10, ax_11, ax_12, v1, v2, n10]
            refine ih _ ⟨fun a h1 h2 => ?_, fun c hc => ?_⟩
            · simp (disch := omega) only [mI, let_, bi_, bv_, ckI, clI, s1, s2, l1, l2, upd_at, Nat.reduceEqDiff, reduceIte, add1, ax13, ax_2, ax_3, ax_4, ax_5, ax_6, ax_7, ax_8, ax_9, ax_10, ax_11, ax_12, h1, h2]
              exact i1 a h1 h2
            · simp (disch := omega) only [mI, let_, bi_, bv_, ckI, clI, s1, s2, l1, l2, upd_at, Nat.reduceEqDiff, reduceIte, add1, ax13, ax_2, ax_3, ax_4, ax_5, ax_6, ax_7, ax_8, ax_9, ax_10, ax_11, ax_12]
              rw [hl, hl]
              by_cases ec : c = p
              · subst ec
                rw [if_pos rfl, if_pos rfl, if_pos ⟨z1, p2', Or.inl rfl⟩, if_pos ⟨z1, p2', Or.inr (by rw [b1']; exact u2)⟩]
                exact ⟨rfl, rfl⟩
              · rw [if_neg ec, if_neg ec, if_neg (fun q => hne c hc ec q.2.1), if_neg (fun q => hne c hc ec q.2.1)]
                exact i2 c hc
    · intro m X hI
      show ∃ C', f_X11_tallyClerks_27 (m + 1) (nI t) X = some C' ∧ _
      unfold f_X11_tallyClerks_27 mI
      rw [hI.1 4 (by omega) (by omega), b3 4 (by omega), a3 4 (by omega), bt.trans it1, if_pos (nI_le (by omega) (by omega))]
      exact ⟨X, rfl, hI⟩
  obtain ⟨C', e1', e2', e3'⟩ := key
  have h' := h
  obtain ⟨⟨⟨bd0, bn0, bt0, _⟩, _⟩, _⟩ := h'
  refine ⟨C', R', ?_, g2, kC_t g3 (kC_t k3 (fun a ha => e2' a (neC ha rfl) (neC ha rfl))), g4, e3'⟩
  unfold f_X11_tallyClerks f_X1_clearTally mI
  rw [bd0, bt0.trans ht, g1, bv_, a1, bv_, b1, bv_, bv_]
  exact e1'
theorem ok_tally (a b : Int32) : op_i Rel (f_X11_tally a b) (f_X12_tally a b) := by
  intro C R h
  unfold f_X12_tally
  rw [let_]
  have h := rel_t h 0
  generalize sI R 0 0 0 = R at h ⊢
  show ends _ _
  unfold f_X11_tally
  try unfold mI
  have h' := h
  obtain ⟨⟨⟨bd, bn, bt, bu, bv, bw, bl⟩, ⟨sa, sb, sc, sd, se, sf, sg, sh⟩, ⟨ka, kb, kc, kd, ke⟩, ⟨ta, tb, tc, td, te, tf, tg⟩, ⟨ra, rb, rc, rd, re_, rf⟩, ⟨qa, qb, qc, qd, qe⟩⟩, hr, hl, hw, d, n, t, u, v, w, ⟨⟨⟨id1, id2⟩, ⟨in1, in2⟩, ⟨it1, it2⟩, ⟨iu1, iu2⟩, ⟨iv1, iv2⟩, ⟨iw1, iw2⟩, ilv⟩, jS, jK, jT, jR, jC, jB, jM, jD, jL⟩, hrule, hhome⟩ := h'
  unfold f_X11_tally_32 f_X11_tally_10 f_X12_tally_57
  simp only [bi_id]
  rcases ix_of a (n := 10) (by omega) with ⟨c, hc, rfl⟩ | ha
  · rw [if_neg (nI_pos (by omega)), if_pos (show nI c < 10 from nI_lt (b := 10) hc (by omega)), in_jx (n := 9) R (by omega) rfl hc, bi_, if_neg n10]
    obtain ⟨C', R', g1, g2, g3, g4, g5⟩ := tally_c h iw1 iw2 in1 in2 it1 it2
    obtain ⟨x1, x2⟩ := g5 c hc
    have hta : ∀ f, f ≤ 1 → f_X12_tallied (nI c) (nI f) R' = some (nI (taF (R'.1 36) (clR R' w) (R'.1 32) c f t), R') := fun f hf => tallied_r (n := n) (by rw [g4.2 70 rfl]; exact iw1) iw2 (by rw [g4.1 49 rfl, g4.1 50 rfl, g4.1 51 rfl, g4.1 52 rfl, g4.1 53 rfl]; exact jC) (by rw [g4.2 43 rfl]; exact it1) it2 (fun j hj => by rw [g4.1 31 rfl]; exact (jT.1 j hj).choose_spec.choose_spec.choose_spec.2.2.2.2.2.2.2.2.1) hf
    rcases ix_of b (n := 2) (by omega) with ⟨m, hm, rfl⟩ | hb
    · rw [in_jx (n := 1) R (by omega) rfl hm, bi_, if_neg n10, g1, g2, bv_, bv_]
      rcases (show m = 0 ∨ m = 1 by omega) with rfl | rfl
      · rw [if_pos (show nI 0 = 0 from rfl), if_pos (show nI 0 = 0 from rfl), if_neg (show ¬ nI 0 = 1 by decide +kernel), show f_X12_tallied (nI c) 0 R' = _ from hta 0 (by omega)]
        simp (disch := omega) only [mI, let_, bi_, bv_, ckI, clI, s1, s2, l1, l2, upd_at, Nat.reduceEqDiff, reduceIte, add1, ax13, ax_2, ax_3, ax_4, ax_5, ax_6, ax_7, ax_8, ax_9, ax_10, ax_11, ax_12, x1]
        exact ends_k h g3 g4
      · rw [if_neg (show ¬ nI 1 = 0 from n10), if_pos (show nI 1 = 1 from rfl), if_neg (show ¬ nI 1 = 0 from n10), if_pos (show nI 1 = 1 from rfl), show f_X12_tallied (nI c) 1 R' = _ from hta 1 (by omega)]
        simp (disch := omega) only [mI, let_, bi_, bv_, ckI, clI, s1, s2, l1, l2, upd_at, Nat.reduceEqDiff, reduceIte, add1, ax13, ax_2, ax_3, ax_4, ax_5, ax_6, ax_7, ax_8, ax_9, ax_10, ax_11, ax_12, x2]
        exact ends_k h g3 g4
    · have n0 : ¬ b = 0 := fun q => by
        rw [q] at hb
        revert hb
        decide +kernel
      have n1 : ¬ b = 1 := fun q => by
        rw [q] at hb
        revert hb
        decide +kernel
      rw [if_neg n0, if_neg n1, in_ix (n := 1) R (by omega) rfl hb, bi_, if_pos rfl]
      exact ref2 h
  · rw [in_ix (n := 9) R (by omega) rfl ha, bi_, if_pos rfl]
    by_cases a0 : a < 0
    · rw [if_pos a0]
      exact ref1 h
    · rw [if_neg a0, if_neg (show ¬ a < 10 from nlt_of.mpr (ha.resolve_left a0))]
      exact ref1 h
theorem worst_l {C R : mm_M} {n w t : Nat} (hC : ∀ c, c < 10 → C.1 73 c = nI (taF (R.1 36) (clR R w) (R.1 32) c 0 t) ∧ C.1 74 c = nI (taF (R.1 36) (clR R w) (R.1 32) c 1 t)) (hR : ∀ c f, f ≤ 1 → f_X12_tallied (nI c) (nI f) R = some (nI (taF (R.1 36) (clR R w) (R.1 32) c f t), R)) : ∀ (m c nC nR : Nat) (x x2 x3 : Int32), c + m = 10 → m < nC → m < nR → (x = -9 ∨ ∃ p, p < 10 ∧ x = nI p ∧ x2 = C.1 73 p ∧ x3 = C.1 74 p) → ∃ r, f_X1_worstOne_5 nC x (nI c) C = some (r, C) ∧ f_X12_worst_23 nR x x2 x3 (nI c) R = some (r, R) := by
  intro m
  induction m with
  | zero =>
    intro c nC nR x x2 x3 hc h1 h2 hx
    obtain ⟨nC, rfl⟩ : ∃ q, nC = q + 1 := ⟨nC - 1, by omega⟩
    obtain ⟨nR, rfl⟩ : ∃ q, nR = q + 1 := ⟨nR - 1, by omega⟩
    obtain rfl : c = 10 := by omega
    refine ⟨x, ?_, ?_⟩
    · unfold f_X1_worstOne_5
      rw [if_pos (show (10 : Int32) ≤ nI 10 by decide +kernel)]
    · unfold f_X12_worst_23
      rw [if_pos (show (10 : Int32) ≤ nI 10 by decide +kernel)]
  | succ m ih =>
    intro c nC nR x x2 x3 hc h1 h2 hx
    obtain ⟨nC, rfl⟩ : ∃ q, nC = q + 1 := ⟨nC - 1, by omega⟩
    obtain ⟨nR, rfl⟩ : ∃ q, nR = q + 1 := ⟨nR - 1, by omega⟩
    obtain ⟨c1, c2⟩ := hC c (by omega)
    unfold f_X1_worstOne_5 f_X1_worstOne_54 f_X1_worstOne_56 f_X12_worst_23 f_X12_worst_69 f_X12_worst_78 mI
    rw [if_neg (show ¬ (10 : Int32) ≤ nI c from nI_ge (b := 10) (by omega) (by omega)), if_neg (show ¬ (10 : Int32) ≤ nI c from nI_ge (b := 10) (by omega) (by omega)), ckI (by omega) (by omega), clI (by omega), show f_X12_tallied (nI c) 0 R = _ from hR c 0 (by omega), bi_, show f_X12_tallied (nI c) 1 R = _ from hR c 1 (by omega), bi_, ← c1, ← c2, add1]
    by_cases z : C.1 73 c < 2
    · rw [if_pos z, if_pos z]
      exact ih (c + 1) nC nR x x2 x3 (by omega) (by omega) (by omega) hx
    · rw [if_neg z, if_neg z]
      rcases hx with rfl | ⟨p, p1, rfl, rfl, rfl⟩
      · rw [if_pos (by decide +kernel), if_pos (by decide +kernel)]
        exact ih (c + 1) nC nR _ _ _ (by omega) (by omega) (by omega) (Or.inr ⟨c, by omega, rfl, rfl, rfl⟩)
      · rw [if_neg (nI_pos (by omega)), if_neg (nI_pos (by omega)), ckI (by omega) (by omega), ckI (by omega) (by omega), ckI (by omega) (by omega), ckI (by omega) (by omega), clI (by omega)]
        by_cases y : C.1 74 c * C.1 73 p ≤ C.1 74 p * C.1 73 c
        · rw [if_pos y, if_pos y]
          exact ih (c + 1) nC nR _ _ _ (by omega) (by omega) (by omega) (Or.inr ⟨p, p1, rfl, rfl, rfl⟩)
        · rw [if_neg y, if_neg y]
          exact ih (c + 1) nC nR _ _ _ (by omega) (by omega) (by omega) (Or.inr ⟨c, by omega, rfl, rfl, rfl⟩)
theorem ok_worst : op_i Rel f_X11_worst f_X12_worst := by
  intro C R h
  unfold f_X12_worst
  rw [let_]
  have h := rel_t h 0
  generalize sI R 0 0 0 = R at h ⊢
  show ends _ _
  unfold f_X11_worst
  try unfold mI
  have h' := h
  obtain ⟨⟨⟨bd, bn, bt, bu, bv, bw, bl⟩, ⟨sa, sb, sc, sd, se, sf, sg, sh⟩, ⟨ka, kb, kc, kd, ke⟩, ⟨ta, tb, tc, td, te, tf, tg⟩, ⟨ra, rb, rc, rd, re_, rf⟩, ⟨qa, qb, qc, qd, qe⟩⟩, hr, hl, hw, d, n, t, u, v, w, ⟨⟨⟨id1, id2⟩, ⟨in1, in2⟩, ⟨it1, it2⟩, ⟨iu1, iu2⟩, ⟨iv1, iv2⟩, ⟨iw1, iw2⟩, ilv⟩, jS, jK, jT, jR, jC, jB, jM, jD, jL⟩, hrule, hhome⟩ := h'
  simp only [bi_id]
  obtain ⟨C', R', g1, g2, g3, g4, g5⟩ := tally_c h iw1 iw2 in1 in2 it1 it2
  have hta : ∀ c f, f ≤ 1 → f_X12_tallied (nI c) (nI f) R' = some (nI (taF (R'.1 36) (clR R' w) (R'.1 32) c f t), R') := fun c f hf => tallied_r (n := n) (by rw [g4.2 70 rfl]; exact iw1) iw2 (by rw [g4.1 49 rfl, g4.1 50 rfl, g4.1 51 rfl, g4.1 52 rfl, g4.1 53 rfl]; exact jC) (by rw [g4.2 43 rfl]; exact it1) it2 (fun j hj => by rw [g4.1 31 rfl]; exact (jT.1 j hj).choose_spec.choose_spec.choose_spec.2.2.2.2.2.2.2.2.1) hf
  rw [g1, g2, bv_, bv_]
  obtain ⟨r, r1, r2⟩ := worst_l (n := n) g5 hta 10 0 mm_fu mm_fu (-9) 0 0 (by omega) (fuGt (by omega)) (fuGt (by omega)) (Or.inl rfl)
  unfold f_X1_worstOne
  rw [show f_X1_worstOne_5 mm_fu (-9) 0 C' = _ from r1, show f_X12_worst_23 mm_fu (-9) 0 0 0 R' = _ from r2]
  exact ends_k h g3 g4

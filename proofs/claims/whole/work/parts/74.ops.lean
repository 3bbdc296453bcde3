/-! weighing: which tests count; what a rule says -/
def cbF (kn vo : Nat → Int32) (k : Int32) (j : Nat) : Int32 := if kn j ≤ k then (if vo j = -1 then 1 else if vo j ≤ k then 0 else 1) else 0
theorem cbF01 (kn vo : Nat → Int32) (k : Int32) (j : Nat) : cbF kn vo k j = 0 ∨ cbF kn vo k j = 1 := by
  unfold cbF
  split
  · split
    · exact Or.inr rfl
    · split
      · exact Or.inl rfl
      · exact Or.inr rfl
  · exact Or.inl rfl
theorem counts_c {C : mm_M} {t j : Nat} (h : C.1 4 7 = nI t) (ht : t ≤ 100) (hj : j < t) (k : Int32) : f_X9_countsAsOf (nI j) k C = some (cbF (C.1 44) (C.1 45) k j, C) := by
  unfold f_X9_countsAsOf cbF
  rw [test_y h ht hj, bi_, if_neg n10]
  simp (disch := omega) only [mI, let_, bi_, bv_, ckI, clI, nI_leI, nI_ltI, nI_eq, nI_add, add1, ad0, pk_mul, pk_sub, e0, e1, ge0, lt0, le0, gt0, lt1, l2_, l3, l4, l5, l6, l7, l8, l9, l10, l12, l13, l20, l26, l30, l40, l80, l99, l100, l240, l320, l999, l1000, l2000, a11, a01, z01, z00, bz0, bz1, s1, s2, l1, l2, upd_at, Nat.reduceEqDiff, reduceIte]
  split
  · split
    · rfl
    · split <;> rfl
  · rfl
theorem counts_r {R : mm_M} {d j : Nat} (hd : d ≤ 2000) (hj : j < 100) (hv : R.1 34 j = -1 ∨ rng (R.1 34 j) 0 d) (k : Int32) : f_X12_countsBy (nI j) k R = some (cbF (R.1 33) (R.1 34) k j, R) := by
  have e := void_of hd hv
  unfold f_X12_countsBy cbF
  simp (disch := omega) only [mI, let_, bi_, bv_, ckI, clI, nI_leI, nI_ltI, nI_eq, nI_add, add1, ad0, pk_mul, pk_sub, e0, e1, ge0, lt0, le0, gt0, lt1, l2_, l3, l4, l5, l6, l7, l8, l9, l10, l12, l13, l20, l26, l30, l40, l80, l99, l100, l240, l320, l999, l1000, l2000, a11, a01, z01, z00, bz0, bz1, s1, s2, l1, l2, upd_at, Nat.reduceEqDiff, reduceIte]
  by_cases a : R.1 33 j ≤ k
  · rw [if_pos a, if_neg (by rw [Int32.lt_iff_toInt_lt]; rw [Int32.le_iff_toInt_le] at a; omega)]
    by_cases b : R.1 34 j = -1
    · rw [if_pos b, if_pos (e.mp b)]
    · rw [if_neg b, if_neg (fun q => b (e.mpr q))]
      split <;> rfl
  · rw [if_neg a, if_pos (by rw [Int32.lt_iff_toInt_lt]; rw [Int32.le_iff_toInt_le] at a; omega)]
theorem nlt_of {a b : Int32} : (¬ a < b) ↔ b ≤ a := by
  rw [Int32.lt_iff_toInt_lt, Int32.le_iff_toInt_le]
  omega
theorem nle_of {a b : Int32} : (¬ a ≤ b) ↔ b < a := by
  rw [Int32.lt_iff_toInt_lt, Int32.le_iff_toInt_le]
  omega
theorem join_ok (t x y : Int32) (M : mm_M) : f_X5_join t x y M = some (evJ t x y, M) := by
  unfold f_X5_join evJ mm_case mm_case mm_case mm_case mm_case mm_case mm_case
  by_cases a7 : t = -7
  · rw [a7, if_neg (by decide +kernel), if_pos rfl, if_pos rfl]
  · rw [if_neg a7, if_neg a7]
    by_cases a8 : t = -8
    · rw [if_pos a8, if_pos a8]
    · rw [if_neg a8, if_neg a8]
      by_cases a4 : t = -4
      · rw [a4, if_neg (by decide +kernel), if_neg (by decide +kernel), if_pos rfl, if_pos rfl]
        by_cases c : x < y
        · rw [if_pos c, if_neg (nle_of.mpr c)]
        · rw [if_neg c, if_pos (nlt_of.mp c)]
      · rw [if_neg a4]
        by_cases a5 : t = -5
        · rw [a5, if_neg (by decide +kernel), if_pos rfl, if_pos rfl]
          split <;> rfl
        · rw [if_neg a5]
          by_cases a6 : t = -6
          · rw [if_pos a6, if_neg a4, if_neg a5, if_pos a6]
            by_cases c : y < x
            · rw [if_pos c, if_neg (nle_of.mpr c)]
            · rw [if_neg c, if_pos (nlt_of.mp c)]
          · rw [if_neg a6, if_neg a6, if_neg a5, if_neg a4]
            by_cases a2 : t = -2
            · rw [if_pos a2, if_pos a2]
              by_cases c : 0 < x
              · rw [if_neg (nle_of.mpr c)]
                by_cases e : 0 < y
                · rw [if_neg (nle_of.mpr e), if_pos ⟨c, e⟩]
                · rw [if_pos (nlt_of.mp e), if_neg (fun q => e q.2)]
              · rw [if_pos (nlt_of.mp c), if_neg (fun q => c q.1)]
            · rw [if_neg a2, if_neg a2]
              by_cases c : 0 < x
              · rw [if_pos c, if_pos (Or.inl c)]
              · rw [if_neg c]
                by_cases e : 0 < y
                · rw [if_neg (nle_of.mpr e), if_pos (Or.inr e)]
                · rw [if_pos (nlt_of.mp e), if_neg (fun q => q.elim c e)]
theorem unit_eq (t : Int32) (M : mm_M) : f_X5_unit t M = some (evU (M.1 19) t, M) := by
  unfold f_X5_unit evU
  rw [let_]
  by_cases a : t - 10000 < 0
  · rw [if_pos a, if_neg (fun q => absurd q.1 (nle_of.mpr a))]
  · rw [if_neg a]
    by_cases b : 26 ≤ t - 10000
    · rw [if_pos b, if_neg (fun q => absurd q.2 (nlt_of.mpr b))]
    · rw [if_neg b, if_pos ⟨nlt_of.mp a, nle_of.mp b⟩]
      obtain ⟨j, h1, h2⟩ := nI_of a
      rw [h2] at b ⊢
      have h3 : j < 26 := by
        rw [l26, nI_leI (by omega) h1] at b
        omega
      rw [ckI h3 (by omega), clI (by omega)]
      rfl
/-- the class's value of rule r -/
theorem value_l {r len : Nat} {v : Int32} (hr : r < 20) (hl : len ≤ 80) : ∀ (cs : List Int32) (i n : Nat) (st : List Int32) (C : mm_M), cs.length < n → i + cs.length = len → C.1 48 r = nI len → (∀ j, j < cs.length → C.1 49 (80 * r + (i + j)) = cs.getD j 0) → stk (C.1 50) st → st.length ≤ i → ev (C.1 19) cs st = [v] → ∃ C', f_X5_value_5 n (nI r) (nI st.length) (nI i) C = some (v, C') ∧ ∀ a, a ≠ 50 → C'.1 a = C.1 a := by
  intro cs
  induction cs with
  | nil =>
    intro i n st C hn hi h48 h49 hst hle hev
    obtain ⟨n, rfl⟩ : ∃ q, n = q + 1 := ⟨n - 1, by omega⟩
    obtain rfl : i = len := hi
    have e : st = [v] := hev
    have h0 : C.1 50 0 = v := by
      rw [e] at hst
      exact hst.1
    unfold f_X5_value_5
    have q1 : i ≤ i := Nat.le_refl i
    simp (disch := omega) only [mI, let_, bi_, bv_, ckI, clI, nI_leI, nI_ltI, nI_eq, nI_add, add1, ad0, pk_mul, pk_sub, e0, e1, ge0, lt0, le0, gt0, lt1, l2_, l3, l4, l5, l6, l7, l8, l9, l10, l12, l13, l20, l26, l30, l40, l80, l99, l100, l240, l320, l999, l1000, l2000, a11, a01, z01, z00, bz0, bz1, s1, s2, l1, l2, upd_at, Nat.reduceEqDiff, reduceIte, h48, q1]
    refine ⟨C, ?_, fun _ _ => rfl⟩
    show some (C.1 50 0, C) = _
    rw [h0]
  | cons t cs ih =>
    intro i n st C hn hi h48 h49 hst hle hev
    obtain ⟨n, rfl⟩ : ∃ q, n = q + 1 := ⟨n - 1, by omega⟩
    have hn' : cs.length + 1 < n + 1 := hn
    have hi' : i + (cs.length + 1) = len := hi
    have q1 : ¬ len ≤ i := by omega
    have q2 : ¬ 80 ≤ i := by omega
    have ht : C.1 49 (80 * r + i) = t := h49 0 (by show 0 < cs.length + 1; omega)
    have hrest : ∀ (C1 : mm_M), (∀ a, a ≠ 50 → C1.1 a = C.1 a) → ∀ j, j < cs.length → C1.1 49 (80 * r + (i + 1 + j)) = cs.getD j 0 := by
      intro C1 hC1 j hj
      rw [hC1 49 (by omega)]
      have := h49 (j + 1) (by show j + 1 < cs.length + 1; omega)
      rw [show i + 1 + j = i + (j + 1) by omega]
      exact this
    have go : ∀ (C1 : mm_M) (st1 : List Int32), (∀ a, a ≠ 50 → C1.1 a = C.1 a) → stk (C1.1 50) st1 → st1.length ≤ i + 1 → ev1 (C.1 19) t st = st1 → ∃ C', f_X5_value_5 n (nI r) (nI st1.length) (nI (i + 1)) C1 = some (v, C') ∧ ∀ a, a ≠ 50 → C'.1 a = C.1 a := by
      intro C1 st1 hC1 hs1 hl1 he
      obtain ⟨C', g1, g2⟩ := ih (i + 1) n st1 C1 (by omega) (by omega) (by rw [hC1 48 (by omega)]; exact h48) (hrest C1 hC1) hs1 hl1 (by rw [hC1 19 (by omega), ← he]; exact hev)
      exact ⟨C', g1, fun a ha => (g2 a ha).trans (hC1 a ha)⟩
    unfold f_X5_value_5 f_X5_value_100 f_X5_value_139
    rw [ckI hr (by omega), clI (by omega)]
    unfold mI
    rw [h48, if_neg (nI_ge (by omega) (by omega)), if_neg (show ¬ (80 : Int32) ≤ nI i from nI_ge (b := 80) (by omega) (by decide)), l80, pk_mul, nI_add, ckI (by omega) (by omega), let_, clI (by omega), Nat.mul_comm r 80, ht, add1]
    by_cases t0 : t < 0
    · rw [if_pos t0]
      have t0' : ¬ 0 ≤ t := nle_of.mpr t0
      by_cases t3 : t = -3
      · rw [if_pos t3]
        cases st with
        | nil =>
          rw [if_pos (show nI ([] : List Int32).length ≤ 0 by decide +kernel)]
          exact go C [] (fun _ _ => rfl) trivial (by show 0 ≤ i + 1; omega) (by unfold ev1; rw [if_neg t0', if_pos t3])
        | cons x l =>
          have hl' : l.length + 1 ≤ i := hle
          rw [if_neg (nI_nle (by show 0 < l.length + 1; omega) (by show l.length + 1 < 2 ^ 31; omega)), show nI (x :: l).length - 1 = nI l.length from nI_pred l.length, ckI (by omega) (by omega), clI (by omega), hst.1]
          have e1 : ev1 (C.1 19) t (x :: l) = (if 0 < x then 0 else 1) :: l := by
            unfold ev1
            rw [if_neg t0', if_pos t3]
          by_cases x0 : 0 < x
          · rw [if_pos x0] at e1
            rw [if_neg (nle_of.mpr x0), ckI (by omega) (by omega), let_]
            exact go (sI C 50 l.length 0) (0 :: l) (fun a ha => by simp only [s1, s2, l1, l2, upd_at, Nat.reduceEqDiff, reduceIte, ha]) (by simp only [s1, s2, l1, l2, upd_at, Nat.reduceEqDiff, reduceIte]; exact stk_push 0 hst.2) (by show l.length + 1 ≤ i + 1; omega) e1
          · rw [if_neg x0] at e1
            rw [if_pos (nlt_of.mp x0), ckI (by omega) (by omega), let_]
            exact go (sI C 50 l.length 1) (1 :: l) (fun a ha => by simp only [s1, s2, l1, l2, upd_at, Nat.reduceEqDiff, reduceIte, ha]) (by simp only [s1, s2, l1, l2, upd_at, Nat.reduceEqDiff, reduceIte]; exact stk_push 1 hst.2) (by show l.length + 1 ≤ i + 1; omega) e1
      · rw [if_neg t3]
        cases st with
        | nil =>
          rw [if_pos (show nI ([] : List Int32).length ≤ 1 by decide +kernel)]
          exact go C [] (fun _ _ => rfl) trivial (by show 0 ≤ i + 1; omega) (by unfold ev1; rw [if_neg t0', if_neg t3])
        | cons y l =>
          cases l with
          | nil =>
            rw [if_pos (show nI [y].length ≤ 1 by show nI 1 ≤ 1; decide +kernel)]
            exact go C [y] (fun _ _ => rfl) hst (by show 1 ≤ i + 1; omega) (by unfold ev1; rw [if_neg t0', if_neg t3])
          | cons x l =>
            have hl' : l.length + 1 + 1 ≤ i := hle
            rw [if_neg (show ¬ nI (y :: x :: l).length ≤ 1 from nI_ge (a := 1) (b := l.length + 1 + 1) (by omega) (by omega)), show nI (y :: x :: l).length + -1 = nI (l.length + 1) from pk_m1 (l.length + 1), nI_pred, ckI (by omega) (by omega), ckI (by omega) (by omega), clI (by omega), clI (by omega), join_ok, bi_, ckI (by omega) (by omega), let_]
            have a1 : C.1 50 (l.length + 1) = y := hst.1
            have a2 : C.1 50 l.length = x := hst.2.1
            rw [a1, a2]
            exact go (sI C 50 l.length (evJ t x y)) (evJ t x y :: l) (fun a ha => by simp only [s1, s2, l1, l2, upd_at, Nat.reduceEqDiff, reduceIte, ha]) (by simp only [s1, s2, l1, l2, upd_at, Nat.reduceEqDiff, reduceIte]; exact stk_push _ hst.2.2) (by show l.length + 1 ≤ i + 1; omega) (by unfold ev1; rw [if_neg t0', if_neg t3])
    · rw [if_neg t0, if_neg (show ¬ nI 80 ≤ nI st.length from nI_ge (by omega) (by omega)), unit_eq, bi_, ckI (by omega) (by omega), let_, clI (by omega), add1]
      exact go (sI C 50 st.length (evU (C.1 19) t)) (evU (C.1 19) t :: st) (fun a ha => by simp only [s1, s2, l1, l2, upd_at, Nat.reduceEqDiff, reduceIte, ha]) (by simp only [s1, s2, l1, l2, upd_at, Nat.reduceEqDiff, reduceIte]; exact stk_push _ hst) (by show st.length + 1 ≤ i + 1; omega) (by unfold ev1; rw [if_pos (nlt_of.mp t0)])
theorem value_ok {r : Nat} {v : Int32} {cd : List Int32} {C : mm_M} (hr : r < 20) (hl : cd.length ≤ 80) (h48 : C.1 48 r = nI cd.length) (h49 : ∀ i, i < cd.length → C.1 49 (80 * r + i) = cd.getD i 0) (hev : ∀ st, ev (C.1 19) cd st = v :: st) : ∃ C', f_X5_value (nI r) C = some (v, C') ∧ ∀ a, a ≠ 50 → C'.1 a = C.1 a := by
  obtain ⟨C', g1, g2⟩ := value_l (v := v) hr hl cd 0 mm_fu [] C (fuGt (by omega)) (by omega) h48 (fun j hj => by rw [Nat.zero_add]; exact h49 j hj) trivial (by show 0 ≤ 0; omega) (hev [])
  exact ⟨C', g1, g2⟩

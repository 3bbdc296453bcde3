/-! who may go where; the stops -/
def mgP (kn sh ch vo : Nat → Int32) (t k s : Nat) : Prop := kn (40 * k + s) = 0 ∧ ∀ j, j < t → ch j = nI k → sh j = nI s → vo j ≠ -1
theorem any_c {X : mm_M} {t k s : Nat} (ht : X.1 4 7 = nI t) (h100 : t ≤ 100) : ∃ x, f_X9_anyOf (nI k) (nI s) X = some (x, X) ∧ (x = 0 ∨ x = 1) ∧ (x = 0 ↔ ∀ j, j < t → X.1 40 j = nI k → X.1 39 j = nI s → X.1 45 j ≠ -1) := by
  have key : ∀ (m i n : Nat), i + m = t → m < n → ∃ x, f_X9_anyOf_2 n (nI k) (nI s) (nI i) X = some (x, X) ∧ (x = 0 ∨ x = 1) ∧ (x = 0 ↔ ∀ j, i ≤ j → j < t → X.1 40 j = nI k → X.1 39 j = nI s → X.1 45 j ≠ -1) := by
    intro m
    induction m with
    | zero =>
      intro i n h1 h2
      obtain ⟨n, rfl⟩ : ∃ q, n = q + 1 := ⟨n - 1, by omega⟩
      refine ⟨0, ?_, Or.inl rfl, iff_of_true rfl (fun j h3 h4 => absurd h4 (by omega))⟩
      unfold f_X9_anyOf_2 mI
      rw [ht, if_pos (nI_le (by omega) (by omega))]
    | succ m ih =>
      intro i n h1 h2
      obtain ⟨n, rfl⟩ : ∃ q, n = q + 1 := ⟨n - 1, by omega⟩
      obtain ⟨x, x1, x2, x3⟩ := ih (i + 1) n (by omega) (by omega)
      have skip : ¬ (X.1 40 i = nI k ∧ X.1 39 i = nI s ∧ X.1 45 i = -1) → ((x = 0) ↔ ∀ j, i ≤ j → j < t → X.1 40 j = nI k → X.1 39 j = nI s → X.1 45 j ≠ -1) := by
        intro no
        refine x3.trans ⟨fun z j j1 j2 j3 j4 j5 => ?_, fun z j j1 => z j (by omega)⟩
        by_cases y : j = i
        · subst y
          exact no ⟨j3, j4, j5⟩
        · exact z j (by omega) j2 j3 j4 j5
      unfold f_X9_anyOf_2 f_X9_anyOf_40
      rw [show mI X 4 7 = nI t from ht, if_neg (nI_ge (by omega) (by omega)), ckI (by omega) (by omega), ckI (by omega) (by omega), clI (by omega), void_c ht h100 (show i < t by omega), bi_, add1, x1]
      unfold mI
      by_cases c1 : X.1 40 i = nI k
      · rw [if_pos c1]
        by_cases c2 : X.1 39 i = nI s
        · rw [if_pos c2]
          by_cases c3 : X.1 45 i = -1
          · rw [if_pos c3, if_pos rfl]
            exact ⟨1, rfl, Or.inr rfl, iff_of_false n10 (fun z => z i (by omega) (by omega) c1 c2 c3)⟩
          · rw [if_neg c3, if_neg n10]
            exact ⟨x, rfl, x2, skip (fun z => c3 z.2.2)⟩
        · rw [if_neg c2]
          exact ⟨x, rfl, x2, skip (fun z => c2 z.2.1)⟩
      · rw [if_neg c1]
        exact ⟨x, rfl, x2, skip (fun z => c1 z.1)⟩
  obtain ⟨x, x1, x2, x3⟩ := key t 0 mm_fu (by omega) (fuGt (by omega))
  exact ⟨x, x1, x2, x3.trans ⟨fun z j j2 => z j (by omega) j2, fun z j _ j2 => z j j2⟩⟩
theorem mayGo_c {X : mm_M} {t k s : Nat} (ht : X.1 4 7 = nI t) (h100 : t ≤ 100) (hk : k < 8) (hs : s < 40) : ∃ x, f_X11_mayGo (nI k) (nI s) X = some (x, X) ∧ (x = 0 ∨ x = 1) ∧ (x = 0 ↔ ¬ mgP (X.1 38) (X.1 39) (X.1 40) (X.1 45) t k s) := by
  obtain ⟨x, x1, x2, x3⟩ := any_c (k := k) (s := s) ht h100
  unfold f_X11_mayGo mgP
  rw [known_c hk hs, bi_]
  by_cases e : X.1 38 (40 * k + s) = 0
  · rw [if_pos e, if_pos rfl, x1, bi_]
    by_cases y : x = 0
    · rw [if_pos y]
      exact ⟨1, rfl, Or.inr rfl, iff_of_false n10 (fun z => z ⟨e, x3.mp y⟩)⟩
    · rw [if_neg y]
      exact ⟨0, rfl, Or.inl rfl, iff_of_true rfl (fun z => y (x3.mpr z.2))⟩
  · rw [if_neg e, if_neg n10]
    exact ⟨0, rfl, Or.inl rfl, iff_of_true rfl (fun z => e z.1)⟩
theorem cb_d {kn vo : Nat → Int32} {d j : Nat} (hd : d ≤ 2000) (hk : rng (kn j) 0 d) (hv : vo j = -1 ∨ rng (vo j) 0 d) : cbF kn vo (nI d) j = if vo j = -1 then 1 else 0 := by
  unfold cbF
  obtain ⟨x, x1, x2, x3⟩ := hk
  rw [x1, if_pos (nI_le x3 (by omega))]
  by_cases e : vo j = -1
  · rw [if_pos e, if_pos e]
  · rw [if_neg e, if_neg e]
    rcases hv with z | z
    · exact absurd z e
    · obtain ⟨y, y1, y2, y3⟩ := z
      rw [y1, if_pos (nI_le y3 (by omega))]
theorem al41 {R : mm_M} {d t k i s : Nat} (hd : d ≤ 2000) (h1 : R.1 0 1 = nI d) (ht : R.1 0 43 = nI t) (h100 : t ≤ 100) (hi : i < 8) (h44 : R.1 44 i = nI s) (hk : ∀ j, j < t → rng (R.1 33 j) 0 d) (hv : ∀ j, j < t → R.1 34 j = -1 ∨ rng (R.1 34 j) 0 d) (x2 : Int32) (K : Int32 → Int32 → Int32 → Int32 → mm_M → Option (Int32 × mm_M)) : ∀ (m q n : Nat) (b : Int32), q + m = t → m < n → (b = 0 ∨ b = 1) → ∃ y, f_X12_allowed_41 K n (nI k) x2 (nI i) b (nI q) R = K (nI k) x2 (nI i) y R ∧ (y = 0 ∨ y = 1) ∧ (y = 0 ↔ ¬ (b ≠ 0 ∧ ∀ j, q ≤ j → j < t → R.1 29 j = nI k → R.1 28 j = nI s → R.1 34 j ≠ -1)) := by
  intro m
  induction m with
  | zero =>
    intro q n b g1 g2 g3
    obtain ⟨n, rfl⟩ : ∃ q, n = q + 1 := ⟨n - 1, by omega⟩
    refine ⟨b, ?_, g3, ⟨fun z y => y.1 z, fun z => ?_⟩⟩
    · unfold f_X12_allowed_41 mI
      rw [ht, if_pos (nI_le (by omega) (by omega))]
    · exact Classical.byContradiction (fun y => z ⟨y, fun j j1 j2 => absurd j2 (by omega)⟩)
  | succ m ih =>
    intro q n b g1 g2 g3
    obtain ⟨n, rfl⟩ : ∃ q, n = q + 1 := ⟨n - 1, by omega⟩
    obtain ⟨u, u1, u2, u3⟩ := ih (q + 1) n 0 (by omega) (by omega) (Or.inl rfl)
    obtain ⟨v, v1, v2, v3⟩ := ih (q + 1) n 1 (by omega) (by omega) (Or.inr rfl)
    have u0 : u = 0 := u3.mpr (fun z => z.1 rfl)
    have skip : ¬ (R.1 29 q = nI k ∧ R.1 28 q = nI s ∧ R.1 34 q = -1) → b ≠ 0 → ((v = 0) ↔ ¬ (b ≠ 0 ∧ ∀ j, q ≤ j → j < t → R.1 29 j = nI k → R.1 28 j = nI s → R.1 34 j ≠ -1)) := by
      intro no hb
      refine v3.trans (not_congr ⟨fun z => ⟨hb, fun j j1 j2 j3 j4 j5 => ?_⟩, fun z => ⟨n10, fun j j1 => z.2 j (by omega)⟩⟩)
      by_cases y : j = q
      · subst y
        exact no ⟨j3, j4, j5⟩
      · exact z.2 j (by omega) j2 j3 j4 j5
    unfold f_X12_allowed_41 f_X12_allowed_99 f_X12_allowed_95 f_X12_allowed_100
    rw [show mI R 0 43 = nI t from ht, if_neg (nI_ge (by omega) (by omega)), add1, show mI R 0 1 = nI d from h1, counts_r hd (by omega) (hv q (by omega)), cb_d hd (hk q (by omega)) (hv q (by omega)), bi_, u1, v1, ckI (by omega) (by omega), ckI (by omega) (by omega), ckI hi (by omega), clI (by omega), clI (by omega)]
    unfold mI
    rw [h44]
    by_cases b0 : b = 0
    · rw [if_pos b0]
      exact ⟨u, rfl, u2, iff_of_true u0 (fun z => z.1 b0)⟩
    · rw [if_neg b0]
      by_cases c3 : R.1 34 q = -1
      · rw [if_pos c3, if_neg n10]
        by_cases c1 : R.1 29 q = nI k
        · rw [if_pos c1]
          by_cases c2 : R.1 28 q = nI s
          · rw [if_pos c2]
            exact ⟨u, rfl, u2, iff_of_true u0 (fun z => z.2 q (by omega) (by omega) c1 c2 c3)⟩
          · rw [if_neg c2]
            exact ⟨v, rfl, v2, skip (fun z => c2 z.2.1) b0⟩
        · rw [if_neg c1]
          exact ⟨v, rfl, v2, skip (fun z => c1 z.1) b0⟩
      · rw [if_neg c3, if_pos rfl]
        exact ⟨v, rfl, v2, skip (fun z => c3 z.2.2) b0⟩
theorem bt_1 : ∀ i, i < 8 → ∀ a, a < 2 ^ i → (a + 2 ^ i) / 2 ^ i % 2 = 1 ∧ a / 2 ^ i % 2 = 0 ∧ ∀ j, j < i → (a + 2 ^ i) / 2 ^ j % 2 = a / 2 ^ j % 2 := by decide +kernel
theorem allow_r {R : mm_M} {d t k W : Nat} {sh : Nat → Nat} (hd : d ≤ 2000) (h1 : R.1 0 1 = nI d) (ht : R.1 0 43 = nI t) (h100 : t ≤ 100) (hk8 : k < 8) (hW : W ≤ 8) (h62 : R.1 0 62 = nI W) (h44 : ∀ i, i < W → R.1 44 i = nI (sh i) ∧ sh i < 40) (hk : ∀ j, j < t → rng (R.1 33 j) 0 d) (hv : ∀ j, j < t → R.1 34 j = -1 ∨ rng (R.1 34 j) 0 d) : ∃ m, f_X12_allowed (nI k) R = some (nI m, R) ∧ ∀ i, i < W → (m / 2 ^ i % 2 = 1 ↔ mgP (R.1 13) (R.1 28) (R.1 29) (R.1 34) t k (sh i)) := by
  unfold f_X12_allowed
  refine lpMf (fun n i (a : Nat) => f_X12_allowed_4 n (nI k) (nI a) (nI i) R) (fun i a => a < 2 ^ i ∧ ∀ j, j < i → (a / 2 ^ j % 2 = 1 ↔ mgP (R.1 13) (R.1 28) (R.1 29) (R.1 34) t k (sh j))) (fun b => ∃ m, b = some (nI m, R) ∧ ∀ i, i < W → (m / 2 ^ i % 2 = 1 ↔ mgP (R.1 13) (R.1 28) (R.1 29) (R.1 34) t k (sh i))) (c := W) 0 (by omega) ⟨by omega, fun j hj => absurd hj (by omega)⟩ ?_ ?_
  · intro i n a hi hI ih
    obtain ⟨i1, i2⟩ := hI
    obtain ⟨y1, y2⟩ := h44 i hi
    have hb : ∃ b : Int32, (b = 0 ∨ b = 1) ∧ (b ≠ 0 ↔ R.1 13 (40 * k + sh i) = 0) ∧ f_X12_allowed_4 (n + 1) (nI k) (nI a) (nI i) R = f_X12_allowed_36 (f_X12_allowed_4 n) (nI k) (nI a) (nI i) b R := by
      have hun : f_X12_allowed_4 (n + 1) (nI k) (nI a) (nI i) R = if R.1 13 (40 * k + sh i) = 0 then f_X12_allowed_36 (f_X12_allowed_4 n) (nI k) (nI a) (nI i) 1 R else f_X12_allowed_36 (f_X12_allowed_4 n) (nI k) (nI a) (nI i) 0 R := by
        conv => lhs; unfold f_X12_allowed_4
        rw [show mI R 0 62 = nI W from h62, if_neg (nI_ge hi (by omega)), ckI (by omega) (by omega), clI (by omega), show mI R 44 i = _ from y1, l40, pk_mul, nI_add, ckI (by omega) (by omega), clI (by omega)]
        rfl
      rw [hun]
      by_cases e : R.1 13 (40 * k + sh i) = 0
      · rw [if_pos e]
        exact ⟨1, Or.inr rfl, iff_of_true n10 e, rfl⟩
      · rw [if_neg e]
        exact ⟨0, Or.inl rfl, iff_of_false (fun z => z rfl) e, rfl⟩
    obtain ⟨b, b1, b2, b3⟩ := hb
    obtain ⟨y, z1, z2, z3⟩ := al41 (k := k) hd h1 ht h100 (show i < 8 by omega) y1 hk hv (nI a) (f_X12_allowed_108 (f_X12_allowed_4 n)) t 0 mm_fu b (by omega) (fuGt (by omega)) b1
    have hy : y = 0 ↔ ¬ mgP (R.1 13) (R.1 28) (R.1 29) (R.1 34) t k (sh i) := by
      refine z3.trans (not_congr ⟨fun z => ⟨b2.mp z.1, fun j j1 => z.2 j (by omega) j1⟩, fun z => ⟨b2.mpr z.1, fun j _ j1 => z.2 j j1⟩⟩)
    show ∃ m, f_X12_allowed_4 (n + 1) (nI k) (nI a) (nI i) R = _ ∧ _
    rw [b3]
    unfold f_X12_allowed_36
    rw [show f_X12_allowed_41 (f_X12_allowed_108 (f_X12_allowed_4 n)) mm_fu (nI k) (nI a) (nI i) b 0 R = _ from z1]
    unfold f_X12_allowed_108 f_X12_allowed_121
    obtain ⟨t1', t2', t3'⟩ := bt_1 i (by omega) a i1
    have hps : 2 ^ (i + 1) = 2 ^ i * 2 := Nat.pow_succ 2 i
    by_cases e : y = 0
    · rw [if_pos e, let_, Int32.or_zero, add1]
      refine ih a ⟨by omega, fun j hj => ?_⟩
      by_cases q : j = i
      · subst q
        exact iff_of_false (by omega) (hy.mp e)
      · exact i2 j (by omega)
    · rw [if_neg e, let_, or_i i (by omega) a i1, add1]
      refine ih (a + 2 ^ i) ⟨by omega, fun j hj => ?_⟩
      by_cases q : j = i
      · subst q
        exact iff_of_true t1' (Classical.byContradiction (fun w => e (hy.mpr w)))
      · rw [t3' j (by omega)]
        exact i2 j (by omega)
  · intro n a hI
    show ∃ m, f_X12_allowed_4 (n + 1) (nI k) (nI a) (nI W) R = _ ∧ _
    unfold f_X12_allowed_4 mI
    rw [h62, if_pos (nI_le (by omega) (by omega))]
    exact ⟨a, rfl, hI.2⟩

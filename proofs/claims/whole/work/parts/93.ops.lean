/-! the reference's ways -/
def rBest (v : Nat) : Int32 := if v = 1000000 then -1 else nI v
theorem fw25 {W : Nat} {px py sh : Nat → Nat} {M : mm_M} (h : plR W px py sh M) {s l : Nat} {v : Nat → Nat} (hs : s < 256) (hl : vl W l) (hv : ∀ i, i < W → s / 2 ^ i % 2 = 1 → M.1 46 (9 * (s - 2 ^ i) + i) = nI (v i) ∧ v i ≤ 100000) (K : Int32 → Int32 → Int32 → mm_M → Option mm_M) : f_X12_findWays_25 K mm_fu (nI s) (nI l) (-1) (nI 0) M = K (nI s) (nI l) (rBest (mnF s (fun i => Lg px py l i + v i) W)) M := by
  have hW := h.2.1
  refine lpf (fun n i => f_X12_findWays_25 K n (nI s) (nI l) (rBest (mnF s (fun i => Lg px py l i + v i) i)) (nI i) M) (c := W) (by omega) ?_ ?_
  · intro i m hi
    show f_X12_findWays_25 K (m + 1) _ _ _ _ _ = f_X12_findWays_25 K m _ _ _ _ _
    have hm : mnF s (fun i => Lg px py l i + v i) (i + 1) = if s / 2 ^ i % 2 = 1 then (if Lg px py l i + v i < mnF s (fun i => Lg px py l i + v i) i then Lg px py l i + v i else mnF s (fun i => Lg px py l i + v i) i) else mnF s (fun i => Lg px py l i + v i) i := rfl
    have htop := mnF_top (s := s) (f := fun i => Lg px py l i + v i) i
    generalize mnF s (fun i => Lg px py l i + v i) i = b at hm htop ⊢
    conv => lhs; unfold f_X12_findWays_25 f_X12_findWays_104
    rw [show mI M 0 62 = nI W from h.1, if_neg (nI_ge hi (by omega)), hm, add1]
    by_cases e : s / 2 ^ i % 2 = 1
    · rw [if_pos ((shr_i s hs i (by omega)).mpr e), if_pos e]
      obtain ⟨v1, v2⟩ := hv i hi e
      have hL := Lg_le h hl (b := i) (Or.inl hi)
      have h2i : 2 ^ i ≤ s := by
        rcases Nat.lt_or_ge s (2 ^ i) with z | z
        · rw [Nat.div_eq_of_lt z] at e
          omega
        · exact z
      have hp1 : 1 ≤ 2 ^ i := Nat.one_le_two_pow
      have h58 : f_X12_findWays_58 (f_X12_findWays_25 K m) (nI s) (nI l) (rBest b) (nI i) M = f_X12_findWays_25 K m (nI s) (nI l) (rBest (if Lg px py l i + v i < b then Lg px py l i + v i else b)) (nI (i + 1)) M := by
        unfold f_X12_findWays_58 f_X12_findWays_97 f_X12_findWays_103 f_X12_findWays_104 mI
        rw [far_r h hl (Or.inl hi), bi_, clr_i s hs i (by omega) e, l9, pk_mul, nI_add, ckI (by omega) (by omega), let_, clI (by omega), v1, nI_add, add1]
        unfold rBest
        by_cases z : b = 1000000
        · rw [if_pos z, if_pos m1lt, if_pos (show Lg px py l i + v i < b by omega), if_neg (by omega)]
        · rw [if_neg z, if_neg (nI_pos (by omega))]
          by_cases y : Lg px py l i + v i < b
          · rw [if_neg (nI_ge y (by omega)), if_pos y, if_neg (by omega)]
          · rw [if_pos (nI_le (by omega) (by omega)), if_neg y, if_neg z]
      rcases hl with z | z
      · rw [if_neg (show ¬ nI l = 8 from ne_ (a := l) (b := 8) (by omega) (by omega) (by omega)), if_neg (nI_ge z (by omega))]
        exact h58
      · rw [if_pos (show nI l = 8 by rw [z]; rfl)]
        exact h58
    · rw [if_neg (fun z => e ((shr_i s hs i (by omega)).mp z)), if_neg e]
  · intro m
    show f_X12_findWays_25 K (m + 1) _ _ _ (nI W) _ = _
    unfold f_X12_findWays_25 mI
    rw [h.1, if_pos (nI_le (by omega) (by omega))]
theorem fw25x {W : Nat} {px py sh : Nat → Nat} {M : mm_M} (h : plR W px py sh M) {s l : Nat} (hs : s < 256) (hl : ¬ vl W l) (hl9 : l < 9) (K : Int32 → Int32 → Int32 → mm_M → Option mm_M) : f_X12_findWays_25 K mm_fu (nI s) (nI l) (-1) (nI 0) M = K (nI s) (nI l) (-1) M := by
  have hW := h.2.1
  unfold vl at hl
  refine lpf (fun n i => f_X12_findWays_25 K n (nI s) (nI l) (-1) (nI i) M) (c := W) (by omega) ?_ ?_
  · intro i m hi
    show f_X12_findWays_25 K (m + 1) _ _ _ _ _ = f_X12_findWays_25 K m _ _ _ _ _
    conv => lhs; unfold f_X12_findWays_25 f_X12_findWays_104
    rw [show mI M 0 62 = nI W from h.1, if_neg (nI_ge hi (by omega)), if_neg (show ¬ nI l = 8 from ne_ (a := l) (b := 8) (by omega) (by omega) (by omega)), if_pos (nI_le (show W ≤ l by omega) (by omega)), add1]
    split <;> rfl
  · intro m
    show f_X12_findWays_25 K (m + 1) _ _ _ (nI W) _ = _
    unfold f_X12_findWays_25 mI
    rw [h.1, if_pos (nI_le (by omega) (by omega))]
/-- the rows of the sets below s are right -/
def wOk (W : Nat) (px py : Nat → Nat) (row : Nat → Int32) (s : Nat) : Prop := ∀ s', s' < s → ∀ l, vl W l → ∃ v, row (9 * s' + l) = nI v ∧ v ≤ 120 * (s' + 1) ∧ (s' = 0 → v = Lg px py l 8) ∧ (s' ≠ 0 → v = mnF s' (fun i => Lg px py l i + nN (row (9 * (s' - 2 ^ i) + i))) W)
theorem pow_le_of {s i : Nat} (e : s / 2 ^ i % 2 = 1) : 2 ^ i ≤ s := by
  rcases Nat.lt_or_ge s (2 ^ i) with z | z
  · rw [Nat.div_eq_of_lt z] at e
    omega
  · exact z
theorem some_bit : ∀ W, W < 9 → ∀ s, s < 2 ^ W → s ≠ 0 → ∃ i, i < W ∧ s / 2 ^ i % 2 = 1 := by
  have key : ∀ W, W < 9 → ∀ s, s < 2 ^ W → s ≠ 0 → (List.range W).any (fun i => s / 2 ^ i % 2 == 1) = true := by decide +kernel
  intro W hW s hs h0
  have := key W hW s hs h0
  rw [List.any_eq_true] at this
  obtain ⟨i, h1, h2⟩ := this
  exact ⟨i, List.mem_range.mp h1, by simpa using h2⟩
theorem w256 {W : Nat} (h : W ≤ 8) : 2 ^ W ≤ 256 := Nat.pow_le_pow_right (n := 2) (by omega) h
theorem plR_k {W : Nat} {px py sh : Nat → Nat} {R R' : mm_M} (h : plR W px py sh R) (g : ∀ a, a ≠ 46 → R'.1 a = R.1 a) : plR W px py sh R' := by
  unfold plR at *
  rw [g 0 (by omega), g 44 (by omega), g 3 (by omega), g 4 (by omega)]
  exact h
/-- one set -/
theorem fw14 {W : Nat} {px py sh : Nat → Nat} {M : mm_M} (h : plR W px py sh M) {s : Nat} (hs : s < 2 ^ W) (hw : wOk W px py (M.1 46) s) (K : Int32 → mm_M → Option mm_M) : ∃ M', f_X12_findWays_14 K mm_fu (nI s) (nI 0) M = K (nI s) M' ∧ (∀ a, a ≠ 46 → M'.1 a = M.1 a) ∧ wOk W px py (M'.1 46) (s + 1) := by
  have hW := h.2.1
  have h256 := w256 hW
  have key : ∃ M', f_X12_findWays_14 K mm_fu (nI s) (nI 0) M = K (nI s) M' ∧ (∀ a, a ≠ 46 → M'.1 a = M.1 a) ∧ (∀ x, x < 9 * s → M'.1 46 x = M.1 46 x) ∧ ∀ l, l < 9 → vl W l → M'.1 46 (9 * s + l) = if s = 0 then nI (Lg px py l 8) else rBest (mnF s (fun i => Lg px py l i + nN (M.1 46 (9 * (s - 2 ^ i) + i))) W) := by
    refine lpMf (fun n l X => f_X12_findWays_14 K n (nI s) (nI l) X) (fun l X => (∀ a, a ≠ 46 → X.1 a = M.1 a) ∧ (∀ x, x < 9 * s → X.1 46 x = M.1 46 x) ∧ ∀ l', l' < l → vl W l' → X.1 46 (9 * s + l') = if s = 0 then nI (Lg px py l' 8) else rBest (mnF s (fun i => Lg px py l' i + nN (M.1 46 (9 * (s - 2 ^ i) + i))) W)) (fun b => ∃ M', b = K (nI s) M' ∧ (∀ a, a ≠ 46 → M'.1 a = M.1 a) ∧ (∀ x, x < 9 * s → M'.1 46 x = M.1 46 x) ∧ ∀ l, l < 9 → vl W l → M'.1 46 (9 * s + l) = if s = 0 then nI (Lg px py l 8) else rBest (mnF s (fun i => Lg px py l i + nN (M.1 46 (9 * (s - 2 ^ i) + i))) W)) (c := 9) M (by omega) ⟨fun _ _ => rfl, fun _ _ => rfl, fun l hl => absurd hl (by omega)⟩ ?_ ?_
    · intro l m X hl hI ih
      obtain ⟨i1, i2, i3⟩ := hI
      have hX := plR_k h i1
      have store : ∀ v : Int32, (vl W l → v = if s = 0 then nI (Lg px py l 8) else rBest (mnF s (fun i => Lg px py l i + nN (M.1 46 (9 * (s - 2 ^ i) + i))) W)) → ∃ M', f_X12_findWays_149 (f_X12_findWays_14 K m) (nI s) (nI l) (nI (9 * s + l)) v X = K (nI s) M' ∧ (∀ a, a ≠ 46 → M'.1 a = M.1 a) ∧ (∀ x, x < 9 * s → M'.1 46 x = M.1 46 x) ∧ ∀ l, l < 9 → vl W l → M'.1 46 (9 * s + l) = if s = 0 then nI (Lg px py l 8) else rBest (mnF s (fun i => Lg px py l i + nN (M.1 46 (9 * (s - 2 ^ i) + i))) W) := by
        intro v hv
        unfold f_X12_findWays_149
        rw [ckI (by omega) (by omega), let_, clI (by omega), add1]
        refine ih _ ⟨fun a ha => ?_, fun x hx => ?_, fun l' hl' hv' => ?_⟩
        · simp only [s1, s2, l1, l2, upd_at, Nat.reduceEqDiff, reduceIte, ha]
          exact i1 a ha
        · have : x ≠ 9 * s + l := by omega
          simp only [s1, s2, l1, l2, upd_at, Nat.reduceEqDiff, reduceIte, this]
          exact i2 x hx
        · by_cases e : l' = l
          · subst e
            simp only [s1, s2, l1, l2, upd_at, Nat.reduceEqDiff, reduceIte]
            exact hv hv'
          · have : ¬ (9 * s + l' = 9 * s + l) := by omega
            simp only [s1, s2, l1, l2, upd_at, Nat.reduceEqDiff, reduceIte, this]
            exact i3 l' (by omega) hv'
      show ∃ M', f_X12_findWays_14 K (m + 1) (nI s) (nI l) X = K (nI s) M' ∧ _
      unfold f_X12_findWays_14
      rw [if_neg (show ¬ (9 : Int32) ≤ nI l from nI_ge (b := 9) hl (by omega))]
      have e9 : (9 : Int32) * nI s + nI l = nI (9 * s + l) := by rw [l9, pk_mul, nI_add]
      by_cases hvl : vl W l
      · have k := fw25 hX (s := s) (l := l) (v := fun i => nN (M.1 46 (9 * (s - 2 ^ i) + i))) (by omega) hvl (fun i hi he => by
          have hp := pow_le_of he
          have hp1 : 1 ≤ 2 ^ i := Nat.one_le_two_pow
          obtain ⟨v, v1, v2, _⟩ := hw (s - 2 ^ i) (by omega) i (Or.inl hi)
          rw [i2 _ (by omega), v1, nN_nI (by omega)]
          exact ⟨rfl, by omega⟩) (f_X12_findWays_110 (f_X12_findWays_14 K m))
        rw [show f_X12_findWays_25 (f_X12_findWays_110 (f_X12_findWays_14 K m)) mm_fu (nI s) (nI l) (-1) 0 X = _ from k]
        unfold f_X12_findWays_110 f_X12_findWays_138 f_X12_findWays_148
        rw [e9]
        by_cases s0 : s = 0
        · rw [if_pos (show nI s = 0 by rw [s0]; rfl)]
          have hf : f_X12_farFrom (nI l) 8 X = some (nI (Lg px py l 8), X) := far_r hX hvl (Or.inr rfl)
          have go := store (nI (Lg px py l 8)) (fun _ => by rw [if_pos s0])
          rcases hvl with z | z
          · rw [if_neg (show ¬ nI l = 8 from ne_ (a := l) (b := 8) (by omega) (by omega) (by omega)), show mI X 0 62 = nI W from hX.1, if_neg (nI_ge z (by omega)), hf, bi_]
            exact go
          · rw [if_pos (show nI l = 8 by rw [z]; rfl), hf, bi_]
            exact go
        · rw [if_neg (nI_ne0 (by omega) (by omega))]
          exact store _ (fun _ => by rw [if_neg s0])
      · have k := fw25x hX (s := s) (l := l) (by omega) hvl hl (f_X12_findWays_110 (f_X12_findWays_14 K m))
        rw [show f_X12_findWays_25 (f_X12_findWays_110 (f_X12_findWays_14 K m)) mm_fu (nI s) (nI l) (-1) 0 X = _ from k]
        unfold f_X12_findWays_110 f_X12_findWays_148
        rw [e9]
        have go := store (-1) (fun z => absurd z hvl)
        unfold vl at hvl
        rw [if_neg (show ¬ nI l = 8 from ne_ (a := l) (b := 8) (by omega) (by omega) (by omega)), show mI X 0 62 = nI W from hX.1, if_pos (nI_le (by omega) (by omega))]
        split
        · exact go
        · exact go
    · intro m X hI
      show ∃ M', f_X12_findWays_14 K (m + 1) (nI s) (nI 9) X = K (nI s) M' ∧ _
      unfold f_X12_findWays_14
      rw [if_pos (show (9 : Int32) ≤ nI 9 by decide +kernel)]
      exact ⟨X, rfl, hI⟩
  obtain ⟨M', g1, g2, g3, g4⟩ := key
  refine ⟨M', g1, g2, fun s' hs' l hl => ?_⟩
  have hl9 : l < 9 := by rcases hl with z | z <;> omega
  by_cases e : s' = s
  · subst e
    have k := g4 l hl9 hl
    by_cases s0 : s' = 0
    · rw [if_pos s0] at k
      have := Lg_le h hl (b := 8) (Or.inr rfl)
      exact ⟨_, k, by omega, fun _ => rfl, fun z => absurd s0 z⟩
    · rw [if_neg s0] at k
      obtain ⟨i, hi, he⟩ := some_bit W (by omega) s' hs s0
      have hp := pow_le_of he
      have hp1 : 1 ≤ 2 ^ i := Nat.one_le_two_pow
      obtain ⟨v, v1, v2, _⟩ := hw (s' - 2 ^ i) (by omega) i (Or.inl hi)
      have hle := mnF_le (s := s') (f := fun i => Lg px py l i + nN (M.1 46 (9 * (s' - 2 ^ i) + i))) hi he
      have hL := Lg_le h hl (b := i) (Or.inl hi)
      have hle' : mnF s' (fun i => Lg px py l i + nN (M.1 46 (9 * (s' - 2 ^ i) + i))) W ≤ Lg px py l i + nN (M.1 46 (9 * (s' - 2 ^ i) + i)) := hle
      rw [v1, nN_nI (by omega)] at hle'
      unfold rBest at k
      rw [if_neg (by omega)] at k
      refine ⟨_, k, by omega, fun z => absurd z s0, fun _ => ?_⟩
      refine mnF_eq (fun j hj hje => ?_)
      have hpj := pow_le_of hje
      have hp1j : 1 ≤ 2 ^ j := Nat.one_le_two_pow
      rw [g3 _ (by omega)]
  · obtain ⟨v, v1, v2, v3, v4⟩ := hw s' (by omega) l hl
    refine ⟨v, by rw [g3 _ (by omega)]; exact v1, v2, v3, fun z => ?_⟩
    rw [v4 z]
    refine mnF_eq (fun j hj hje => ?_)
    have hpj := pow_le_of hje
    have hp1j : 1 ≤ 2 ^ j := Nat.one_le_two_pow
    rw [g3 _ (by omega)]
theorem ways_all {W : Nat} {px py sh : Nat → Nat} {R : mm_M} (h : plR W px py sh R) : ∃ R', f_X12_findWays R = some R' ∧ (∀ a, a ≠ 46 → R'.1 a = R.1 a) ∧ wOk W px py (R'.1 46) (2 ^ W) := by
  have hW := h.2.1
  have h256 := w256 hW
  unfold f_X12_findWays
  refine lpMf (fun n s X => f_X12_findWays_2 n (nI s) X) (fun s X => (∀ a, a ≠ 46 → X.1 a = R.1 a) ∧ wOk W px py (X.1 46) s) (fun b => ∃ R', b = some R' ∧ (∀ a, a ≠ 46 → R'.1 a = R.1 a) ∧ wOk W px py (R'.1 46) (2 ^ W)) (c := 2 ^ W) R (by omega) ⟨fun _ _ => rfl, fun s' hs' => absurd hs' (by omega)⟩ ?_ ?_
  · intro s m X hs hI ih
    obtain ⟨i1, i2⟩ := hI
    have hX := plR_k h i1
    obtain ⟨M', g1, g2, g3⟩ := fw14 hX hs i2 (f_X12_findWays_156 (f_X12_findWays_2 m))
    show ∃ R', f_X12_findWays_2 (m + 1) (nI s) X = some R' ∧ _
    unfold f_X12_findWays_2
    rw [show mI X 0 62 = nI W from hX.1, sh_W W (by omega), if_neg (nI_ge hs (by omega)), show f_X12_findWays_14 (f_X12_findWays_156 (f_X12_findWays_2 m)) mm_fu (nI s) 0 X = _ from g1]
    unfold f_X12_findWays_156
    rw [add1]
    exact ih M' ⟨fun a ha => (g2 a ha).trans (i1 a ha), g3⟩
  · intro m X hI
    show ∃ R', f_X12_findWays_2 (m + 1) (nI (2 ^ W)) X = some R' ∧ _
    unfold f_X12_findWays_2
    rw [show mI X 0 62 = nI W from (plR_k h hI.1).1, sh_W W (by omega), if_pos (nI_le (by omega) (by omega))]
    exact ⟨X, rfl, hI⟩

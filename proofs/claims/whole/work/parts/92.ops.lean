/-! the planner: places -/
def vl (W a : Nat) : Prop := a < W ∨ a = 8
def df (a b : Nat) : Nat := if a ≤ b then b - a else a - b
def Lg (px py : Nat → Nat) (a b : Nat) : Nat := df (px a) (px b) + df (py a) (py b)
theorem df_comm (a b : Nat) : df a b = df b a := by
  unfold df
  split
  · split <;> omega
  · split <;> omega
theorem Lg_comm (px py : Nat → Nat) (a b : Nat) : Lg px py a b = Lg px py b a := by
  unfold Lg
  rw [df_comm, df_comm (py a)]
theorem df_le {a b : Nat} (ha : a ≤ 60) (hb : b ≤ 60) : df a b ≤ 60 := by
  unfold df
  split <;> omega
/-- W stops; their places (home is 8) and shops -/
def plC (W : Nat) (px py sh : Nat → Nat) (C : mm_M) : Prop := C.1 10 7 = nI W ∧ W ≤ 8 ∧ (∀ a, vl W a → C.1 62 a = nI (px a) ∧ C.1 63 a = nI (py a) ∧ px a ≤ 60 ∧ py a ≤ 60) ∧ ∀ a, a < W → C.1 61 a = nI (sh a)
def plR (W : Nat) (px py sh : Nat → Nat) (R : mm_M) : Prop := R.1 0 62 = nI W ∧ W ≤ 8 ∧ (px 8 = 0 ∧ py 8 = 0) ∧ ∀ a, a < W → R.1 44 a = nI (sh a) ∧ sh a < 40 ∧ R.1 3 (sh a) = nI (px a) ∧ R.1 4 (sh a) = nI (py a) ∧ px a ≤ 60 ∧ py a ≤ 60
theorem abs_c {a b : Nat} (ha : a ≤ 60) (hb : b ≤ 60) : (if 0 ≤ nI a - nI b then nI a - nI b else 0 - (nI a - nI b)) = nI (df a b) := by
  unfold df
  by_cases e : b ≤ a
  · rw [pk_sub e, if_pos (nI_pos' (by omega))]
    by_cases z : a ≤ b
    · rw [if_pos z]
      congr 1
      omega
    · rw [if_neg z]
  · rw [if_neg (nle_of.mpr (pk_sneg (by omega) (by omega))), if_pos (by omega), ← pk_sub (show a ≤ b by omega), Int32.zero_sub, Int32.neg_sub]
theorem leg_c {W : Nat} {px py sh : Nat → Nat} {C : mm_M} (h : plC W px py sh C) {a b : Nat} (ha : vl W a) (hb : vl W b) : f_X4_leg (nI a) (nI b) C = some (nI (Lg px py a b), C) := by
  obtain ⟨h1, h2, h3, h4⟩ := h
  obtain ⟨a1, a2, a3, a4⟩ := h3 a ha
  obtain ⟨b1, b2, b3, b4⟩ := h3 b hb
  have ha9 : a < 9 := by rcases ha with z | z <;> omega
  have hb9 : b < 9 := by rcases hb with z | z <;> omega
  unfold f_X4_leg mI
  rw [ckI ha9 (by omega), ckI hb9 (by omega), let_, ckI ha9 (by omega), ckI hb9 (by omega), let_, clI (by omega), clI (by omega), a1, a2, b1, b2, abs_c a3 b3, abs_c a4 b4, nI_add]
  rfl
theorem far89 {x y z w : Nat} (hx : x ≤ 60) (hy : y ≤ 60) (hz : z ≤ 60) (hw : w ≤ 60) (M : mm_M) : f_X12_farFrom_89 (nI x) (nI y) (nI z) (nI w) M = some (nI (df x z + df y w), M) := by
  unfold f_X12_farFrom_89 f_X12_farFrom_108 df
  by_cases a : x ≤ z
  · rw [if_pos (nI_le a (by omega)), if_pos a, pk_sub a]
    by_cases b : y ≤ w
    · rw [if_pos (nI_le b (by omega)), if_pos b, pk_sub b, nI_add]
    · rw [if_neg (nI_ge (by omega) (by omega)), if_neg b, pk_sub (by omega), nI_add]
  · rw [if_neg (nI_ge (by omega) (by omega)), if_neg a, pk_sub (by omega)]
    by_cases b : y ≤ w
    · rw [if_pos (nI_le b (by omega)), if_pos b, pk_sub b, nI_add]
    · rw [if_neg (nI_ge (by omega) (by omega)), if_neg b, pk_sub (by omega), nI_add]
theorem far_r {W : Nat} {px py sh : Nat → Nat} {R : mm_M} (h : plR W px py sh R) {a b : Nat} (ha : vl W a) (hb : vl W b) : f_X12_farFrom (nI a) (nI b) R = some (nI (Lg px py a b), R) := by
  obtain ⟨h1, h2, ⟨h3, h4⟩, h5⟩ := h
  have e8 : nI 8 = (8 : Int32) := rfl
  have ne8 : ∀ j, j < W → ¬ nI j = 8 := fun j hj => ne_ (a := j) (b := 8) (by omega) (by omega) (by omega)
  unfold f_X12_farFrom f_X12_farFrom_21 f_X12_farFrom_43 f_X12_farFrom_66 mI Lg
  rcases ha with a1 | a1
  · obtain ⟨x1, x2, x3, x4, x5, x6⟩ := h5 a a1
    rcases hb with b1 | b1
    · obtain ⟨y1, y2, y3, y4, y5, y6⟩ := h5 b b1
      simp only [ne8 a a1, ne8 b b1, reduceIte, ckI (show a < 8 by omega) (show 8 ≤ 100000 by omega), ckI (show b < 8 by omega) (show 8 ≤ 100000 by omega), clI (show a < 2 ^ 31 by omega), clI (show b < 2 ^ 31 by omega), x1, y1, ckI x2 (show 40 ≤ 100000 by omega), ckI y2 (show 40 ≤ 100000 by omega), clI (show sh a < 2 ^ 31 by omega), clI (show sh b < 2 ^ 31 by omega), x3, x4, y3, y4]
      exact far89 x5 x6 y5 y6 R
    · subst b1
      simp only [ne8 a a1, e8, reduceIte, ckI (show a < 8 by omega) (show 8 ≤ 100000 by omega), clI (show a < 2 ^ 31 by omega), x1, ckI x2 (show 40 ≤ 100000 by omega), clI (show sh a < 2 ^ 31 by omega), x3, x4, h3, h4]
      exact far89 (z := 0) (w := 0) x5 x6 (by omega) (by omega) R
  · subst a1
    rcases hb with b1 | b1
    · obtain ⟨y1, y2, y3, y4, y5, y6⟩ := h5 b b1
      simp only [ne8 b b1, e8, reduceIte, ckI (show b < 8 by omega) (show 8 ≤ 100000 by omega), clI (show b < 2 ^ 31 by omega), y1, ckI y2 (show 40 ≤ 100000 by omega), clI (show sh b < 2 ^ 31 by omega), y3, y4, h3, h4]
      exact far89 (x := 0) (y := 0) (by omega) (by omega) y5 y6 R
    · subst b1
      simp only [e8, reduceIte, h3, h4]
      exact far89 (x := 0) (y := 0) (z := 0) (w := 0) (by omega) (by omega) (by omega) (by omega) R
theorem Lg_le {W : Nat} {px py sh : Nat → Nat} {R : mm_M} (h : plR W px py sh R) {a b : Nat} (ha : vl W a) (hb : vl W b) : Lg px py a b ≤ 120 := by
  obtain ⟨h1, h2, ⟨h3, h4⟩, h5⟩ := h
  have key : ∀ c, vl W c → px c ≤ 60 ∧ py c ≤ 60 := by
    intro c hc
    rcases hc with z | z
    · obtain ⟨x1, x2, x3, x4, x5, x6⟩ := h5 c z
      exact ⟨x5, x6⟩
    · rw [z, h3, h4]
      exact ⟨by omega, by omega⟩
  obtain ⟨a1, a2⟩ := key a ha
  obtain ⟨b1, b2⟩ := key b hb
  have d1 := df_le a1 b1
  have d2 := df_le a2 b2
  unfold Lg
  omega
/-- the least of f over the set's first ones -/
def mb (s i : Nat) : Prop := s / 2 ^ i % 2 = 1
def mnF (s : Nat) (f : Nat → Nat) : Nat → Nat
  | 0 => 1000000
  | i + 1 => if s / 2 ^ i % 2 = 1 then (if f i < mnF s f i then f i else mnF s f i) else mnF s f i
theorem mnF_eq {s : Nat} {f g : Nat → Nat} : ∀ {m : Nat}, (∀ i, i < m → s / 2 ^ i % 2 = 1 → f i = g i) → mnF s f m = mnF s g m := by
  intro m
  induction m with
  | zero => exact fun _ => rfl
  | succ m ih =>
    intro h
    unfold mnF
    rw [ih (fun i hi => h i (by omega))]
    by_cases e : s / 2 ^ m % 2 = 1
    · rw [if_pos e, if_pos e, h m (by omega) e]
    · rw [if_neg e, if_neg e]
theorem mnF_le {s : Nat} {f : Nat → Nat} : ∀ {m i : Nat}, i < m → s / 2 ^ i % 2 = 1 → mnF s f m ≤ f i := by
  intro m
  induction m with
  | zero => exact fun h => absurd h (by omega)
  | succ m ih =>
    intro i hi he
    unfold mnF
    by_cases z : i = m
    · subst z
      rw [if_pos he]
      split <;> omega
    · have := ih (i := i) (by omega) he
      split
      · split <;> omega
      · exact this
theorem mnF_top {s : Nat} {f : Nat → Nat} : ∀ m, mnF s f m ≤ 1000000 := by
  intro m
  induction m with
  | zero => exact Nat.le_refl _
  | succ m ih =>
    unfold mnF
    split
    · split <;> omega
    · exact ih
/-- it is one of them, the first one, if there is one below 1000000 -/
theorem mnF_at {s : Nat} {f : Nat → Nat} : ∀ m, mnF s f m < 1000000 → ∃ i, i < m ∧ s / 2 ^ i % 2 = 1 ∧ mnF s f m = f i := by
  intro m
  induction m with
  | zero => exact fun h => absurd h (by show ¬ 1000000 < 1000000; omega)
  | succ m ih =>
    intro h
    unfold mnF at h ⊢
    by_cases e : s / 2 ^ m % 2 = 1
    · rw [if_pos e] at h ⊢
      by_cases z : f m < mnF s f m
      · rw [if_pos z]
        exact ⟨m, by omega, e, rfl⟩
      · rw [if_neg z] at h ⊢
        obtain ⟨i, h1, h2, h3⟩ := ih h
        exact ⟨i, by omega, h2, h3⟩
    · rw [if_neg e] at h ⊢
      obtain ⟨i, h1, h2, h3⟩ := ih h
      exact ⟨i, by omega, h2, h3⟩

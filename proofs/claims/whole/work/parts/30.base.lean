/-! THE PURE PART: plain functions over the two memories. Reading a cell: M.1 o i (ints), M.2 o i (longs). -/
theorem s1 (M : mm_M) (o i : Nat) (v : Int32) (a : Nat) : (sI M o i v).1 a = if a = o then upd (M.1 o) i v else M.1 a := by
  funext b
  by_cases h : a = o
  · subst h
    simp [sI, upd]
  · simp [sI, h]
theorem s2 (M : mm_M) (o i : Nat) (v : Int32) : (sI M o i v).2 = M.2 := rfl
theorem l1 (M : mm_M) (o i : Nat) (v : Int64) : (sL M o i v).1 = M.1 := rfl
theorem l2 (M : mm_M) (o i : Nat) (v : Int64) (a : Nat) : (sL M o i v).2 a = if a = o then vp_updL (M.2 o) i v else M.2 a := by
  funext b
  by_cases h : a = o
  · subst h
    simp [sL, vp_updL]
  · simp [sL, h]
theorem upd_at (f : Nat → Int32) (k : Nat) (x : Int32) (j : Nat) : upd f k x j = if j = k then x else f j := rfl
theorem updL_at (f : Nat → Int64) (k : Nat) (x : Int64) (j : Nat) : vp_updL f k x j = if j = k then x else f j := rfl
theorem upd_id (f : Nat → Int32) (k : Nat) : upd f k (f k) = f := by
  funext j
  unfold upd
  split
  · subst_vars; rfl
  · rfl
theorem ckI {α : Type} {j n : Nat} {X : Option α} (h : j < n) (hn : n ≤ 100000) : mm_ck (nI j) n X = X := by
  unfold mm_ck
  rw [if_neg (nI_in h (by omega))]
theorem clI {j : Nat} (h : j < 2 ^ 31) : (nI j).toNatClampNeg = j := nI_clamp h
theorem fuP : ∃ n, mm_fu = n + 1 := ⟨99999, rfl⟩
theorem fuGt {k : Nat} (h : k < 100000) : k < mm_fu := h
theorem let_ {σ α : Type} (x : σ) (k : σ → Option α) : mm_let x k = k x := rfl
theorem bi_ {σ α : Type} (x : σ) (M : mm_M) (k : σ → mm_M → Option α) : mm_bi (some (x, M)) k = k x M := rfl
theorem bv_ {α : Type} (M : mm_M) (k : mm_M → Option α) : mm_bv (some M) k = k M := rfl
theorem bz0 {α : Type} (X : Option α) : mm_bz 0 X = X := rfl
theorem bz1 {α : Type} (X : Option α) : mm_bz 1 X = X := rfl
theorem a11 : (1 : Int32) &&& 1 = 1 := rfl
theorem a01 : (0 : Int32) &&& 1 = 0 := rfl
/-- a number is below 0, or a natural one -/
theorem i32_cases (x : Int32) : x < 0 ∨ ∃ j : Nat, j < 2 ^ 31 ∧ x = nI j := by
  by_cases h : x < 0
  · exact Or.inl h
  · exact Or.inr (nI_of h)
theorem ltz (j : Nat) (h : j < 2 ^ 31) : ¬ nI j < 0 := nI_pos h
/-! ranges of the reference's memory -/
def rng (x : Int32) (lo hi : Nat) : Prop := ∃ k, x = nI k ∧ lo ≤ k ∧ k ≤ hi
def shopOk (R : mm_M) (d j : Nat) : Prop := rng (R.1 1 j) 0 4 ∧ rng (R.1 2 j) 0 3 ∧ rng (R.1 3 j) 0 60 ∧ rng (R.1 4 j) 0 60 ∧ rng (R.1 5 j) 1 20 ∧ rng (R.1 6 j) 0 1 ∧ ∃ o, R.1 7 j = nI o ∧ 1 ≤ o ∧ o ≤ 6 ∧ ∀ k, k < o → rng (R.1 8 (6 * j + k)) 0 d
def kidOk (R : mm_M) (c : Nat) : Prop := rng (R.1 9 c) 0 1 ∧ (R.1 9 c = 1 → ∃ b, R.1 10 c = -nI b ∧ 3000 ≤ b ∧ b ≤ 7000) ∧ rng (R.1 11 c) 0 12 ∧ (∀ k, k < 12 → rng (R.1 12 (12 * c + k)) 0 25) ∧ ∀ s, s < 40 → rng (R.1 13 (40 * c + s)) 0 1
def testOk (R : mm_M) (d n t : Nat) : Prop := ∃ s c e, R.1 28 t = nI s ∧ s < n ∧ R.1 29 t = nI c ∧ c < 8 ∧ R.1 9 c = 1 ∧ R.1 30 t = nI e ∧ e ≤ d ∧ (∃ e0, R.1 8 (6 * s) = nI e0 ∧ e0 ≤ e) ∧ rng (R.1 31 t) 0 23 ∧ rng (R.1 32 t) 0 7 ∧ rng (R.1 33 t) 0 d ∧ (R.1 34 t = -1 ∨ rng (R.1 34 t) 0 d)
def ruleOk (R : mm_M) (r : Nat) : Prop := rng (R.1 20 r) 0 4 ∧ rng (R.1 21 r) 0 2000 ∧ ∃ z, R.1 23 r = nI z ∧ z ≤ 80
def clerkOk (R : mm_M) (n k : Nat) : Prop := rng (R.1 49 k) 0 9 ∧ (∃ s, R.1 50 k = nI s ∧ s < n) ∧ rng (R.1 51 k) 0 23 ∧ rng (R.1 52 k) 1 24 ∧ rng (R.1 53 k) 0 2000
/-- d the day, n shops, t tests, u rules, v bytes on the tape, w stands -/
def Inv (R : mm_M) (d n t u v w : Nat) : Prop :=
  (R.1 0 1 = nI d ∧ d ≤ 2000) ∧ (R.1 0 2 = nI n ∧ n ≤ 40) ∧ (R.1 0 43 = nI t ∧ t ≤ 100) ∧ (R.1 0 28 = nI u ∧ u ≤ 20) ∧ (R.1 0 27 = nI v ∧ v ≤ 80) ∧ (R.1 0 70 = nI w ∧ w ≤ 40) ∧ rng (R.1 0 60) 0 2000 ∧
  (∀ j, j < n → shopOk R d j) ∧ (∀ j, n ≤ j → R.1 7 j = 0) ∧ (∀ c, c < 8 → kidOk R c) ∧ (∀ k, k < t → testOk R d n k) ∧ (∀ i j, i < j → j < t → ∃ a b, R.1 30 i = nI a ∧ R.1 30 j = nI b ∧ a ≤ b) ∧ (∀ r, r < u → ruleOk R r) ∧ (∀ k, k < w → clerkOk R n k) ∧ (∀ k, k < 5 → rng (R.1 54 k) 0 500) ∧ (∀ k, k < 80 → rng (R.1 19 k) 0 255) ∧ (∀ s, s < 40 → rng (R.1 15 s) 0 1) ∧ (∀ s, s < 40 → rng (R.1 47 s) 0 1)
/-- what both memories hold alike -/
def rBase (C R : mm_M) : Prop :=
  C.1 0 16 = R.1 0 1 ∧ C.1 2 8 = R.1 0 2 ∧ C.1 4 7 = R.1 0 43 ∧ C.1 5 5 = R.1 0 28 ∧ C.1 9 2 = R.1 0 27 ∧ C.1 13 7 = R.1 0 70 ∧ C.1 0 17 = R.1 0 60 ∧
  C.1 26 = R.1 1 ∧ C.1 27 = R.1 2 ∧ C.1 28 = R.1 3 ∧ C.1 29 = R.1 4 ∧ C.1 30 = R.1 5 ∧ C.1 31 = R.1 6 ∧ C.1 32 = R.1 7 ∧ C.1 33 = R.1 8 ∧
  C.1 34 = R.1 9 ∧ C.1 35 = R.1 10 ∧ C.1 36 = R.1 11 ∧ C.1 37 = R.1 12 ∧ C.1 38 = R.1 13 ∧
  C.1 39 = R.1 28 ∧ C.1 40 = R.1 29 ∧ C.1 41 = R.1 30 ∧ C.1 42 = R.1 31 ∧ C.1 43 = R.1 32 ∧ C.1 44 = R.1 33 ∧ C.1 45 = R.1 34 ∧
  C.1 46 = R.1 20 ∧ C.1 47 = R.1 21 ∧ C.1 59 = R.1 19 ∧ C.1 15 = R.1 54 ∧ C.1 16 = R.1 47 ∧ C.1 51 = R.1 15 ∧
  C.1 68 = R.1 49 ∧ C.1 69 = R.1 50 ∧ C.1 70 = R.1 51 ∧ C.1 71 = R.1 52 ∧ C.1 72 = R.1 53 ∧
  (∀ i, i < 6 → C.1 14 i = R.1 14 (i + 1))

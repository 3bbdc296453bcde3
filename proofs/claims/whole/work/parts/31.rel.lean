/-! the relation of the two memories -/
/-- the class's facts (26 of them) against the reference's 13 -/
def corr (F g : Nat → Int32) : Prop := F 0 = g 0 ∧ F 1 = g 1 ∧ F 2 = g 2 ∧ F 3 = g 9 ∧ F 6 = g 3 ∧ F 7 = g 4 ∧ F 10 = g 5 ∧ F 12 = g 12 ∧ F 13 = g 6 ∧ F 14 = g 7 ∧ F 15 = g 8 ∧ F 18 = g 10 ∧ F 24 = g 11
/-- one token of the class's code over a stack (its top first) -/
def evJ (t x y : Int32) : Int32 := if t = -7 then x + y else if t = -8 then x - y else if t = -4 then (if x < y then 1 else 0) else if t = -5 then (if x = y then 1 else 0) else if t = -6 then (if y < x then 1 else 0) else if t = -2 then (if 0 < x ∧ 0 < y then 1 else 0) else (if 0 < x ∨ 0 < y then 1 else 0)
def evU (F : Nat → Int32) (t : Int32) : Int32 := if 0 ≤ t - 10000 ∧ t - 10000 < 26 then F (t - 10000).toNatClampNeg else t
def ev1 (F : Nat → Int32) (t : Int32) (st : List Int32) : List Int32 := if 0 ≤ t then evU F t :: st else if t = -3 then (match st with | [] => [] | x :: r => (if 0 < x then 0 else 1) :: r) else (match st with | y :: x :: r => evJ t x y :: r | s => s)
def ev (F : Nat → Int32) : List Int32 → List Int32 → List Int32
  | [], st => st
  | t :: cs, st => ev F cs (ev1 F t st)
/-- what the reference's readText may change -/
def kpT (R R' : mm_M) : Prop := (∀ a, a ≠ 0 → a ≠ 26 → a ≠ 27 → R'.1 a = R.1 a) ∧ ∀ j, j ≠ 35 → j ≠ 36 → j ≠ 39 → j ≠ 41 → j ≠ 42 → R'.1 0 j = R.1 0 j
/-- the reference's reading of the text x (z bytes) answers as the code cd does -/
def RefEv (z : Nat) (x : Nat → Int32) (cd : List Int32) : Prop := ∀ (F : Nat → Int32) (R : mm_M), corr F (R.1 25) → R.1 0 34 = nI z → (∀ k, k < z → R.1 24 k = x k) → ∃ v R', f_X12_readText R = some (if 0 < v then 1 else 0, R') ∧ (∀ st, ev F cd st = v :: st) ∧ kpT R R'
def rRule (n u : Nat) (tk len cod txt siz : Nat → Int32) : Prop := (∀ j, n ≤ j → j < 40 → tk j = 0) ∧ ∀ r, r < u → ∃ z cd, siz r = nI z ∧ z ≤ 80 ∧ len r = nI cd.length ∧ cd.length ≤ 80 ∧ (∀ i, i < cd.length → cod (80 * r + i) = cd.getD i 0) ∧ RefEv z (fun k => txt (80 * r + k)) cd
/-- the planner's home stays at 0, 0 -/
def rHome (f g : Nat → Int32) : Prop := f 8 = 0 ∧ g 8 = 0
def Rel (C R : mm_M) : Prop :=
  rBase C R ∧ rRef (C.1 14) (R.1 14) ∧ rLet (C.1 0 15) (R.1 47) ∧ rDraw (C.1 6) (C.1 52) (C.1 53) (C.1 54) (R.1 15) (R.1 0 17) (R.1 16) (R.1 17) ∧ ∃ d n t u v w, Inv R d n t u v w ∧ rRule n u (R.1 15) (C.1 48) (C.1 49) (R.1 22) (R.1 23) ∧ rHome (C.1 62) (C.1 63)
def ends (X Y : Option (Int32 × mm_M)) : Prop := ∃ r C1 R1, X = some (r, C1) ∧ Y = some (r, R1) ∧ Rel C1 R1
theorem ends_of {x : Int32} {C R : mm_M} (h : Rel C R) : ends (some (x, C)) (some (x, R)) := ⟨x, C, R, rfl, rfl, h⟩
theorem bi_id (X : Option (Int32 × mm_M)) : mm_bi X (fun r M => some (r, M)) = X := by
  cases X with
  | none => rfl
  | some q => rfl
theorem rel_t {C R : mm_M} (h : Rel C R) (x : Int32) : Rel C (sI R 0 0 x) := by
  unfold Rel rBase Inv iScal at *
  simp only [s1, s2, l1, l2, upd_at, Nat.reduceEqDiff, reduceIte] at *
  exact h
theorem ref_up {f g : Nat → Int32} (h : rRef f g) {k : Nat} (hk : k < 6) : rRef (upd f k (f k + 1)) (upd g (k + 1) (g (k + 1) + 1)) := by
  intro i hi
  unfold upd
  by_cases e : i = k
  · subst e
    rw [if_pos rfl, if_pos rfl, h i hi]
  · rw [if_neg e, if_neg (by omega), h i hi]
theorem rel_ref {C R : mm_M} (h : Rel C R) {k : Nat} (hk : k < 6) : Rel (sI C 14 k (C.1 14 k + 1)) (sI R 14 (k + 1) (R.1 14 (k + 1) + 1)) := by
  unfold Rel rBase Inv iScal at *
  simp only [s1, s2, l1, l2, upd_at, Nat.reduceEqDiff, reduceIte] at *
  obtain ⟨h1, h2, h3⟩ := h
  exact ⟨h1, ref_up h2 hk, h3⟩
theorem ends_ref_k {C R : mm_M} (h : Rel C R) {x : Int32} (k : Nat) (hk : k < 6) (h1 : (-1 : Int32) - x = nI k) (h2 : -x = nI (k + 1)) : ends (f_X11_refuse x C) (f_X12_refuse x R) := by
  refine ⟨x, _, _, ?_, ?_, rel_ref h hk⟩
  · unfold f_X11_refuse
    rw [let_, h1, if_neg (nI_pos (by omega)), if_neg (show ¬ (6 : Int32) ≤ nI k from nI_ge (b := 6) hk (by decide)), ckI hk (by omega), ckI hk (by omega), let_, clI (by omega)]
    rfl
  · unfold f_X12_refuse
    rw [h2, ckI (by omega) (by omega), ckI (by omega) (by omega), let_, clI (by omega)]
    rfl
theorem ref1 {C R : mm_M} (h : Rel C R) : ends (f_X11_refuse (-1) C) (f_X12_refuse (-1) R) := ends_ref_k h 0 (by omega) (by decide +kernel) (by decide +kernel)
theorem ref2 {C R : mm_M} (h : Rel C R) : ends (f_X11_refuse (-2) C) (f_X12_refuse (-2) R) := ends_ref_k h 1 (by omega) (by decide +kernel) (by decide +kernel)
theorem ref3 {C R : mm_M} (h : Rel C R) : ends (f_X11_refuse (-3) C) (f_X12_refuse (-3) R) := ends_ref_k h 2 (by omega) (by decide +kernel) (by decide +kernel)
theorem ref4 {C R : mm_M} (h : Rel C R) : ends (f_X11_refuse (-4) C) (f_X12_refuse (-4) R) := ends_ref_k h 3 (by omega) (by decide +kernel) (by decide +kernel)
theorem ref5 {C R : mm_M} (h : Rel C R) : ends (f_X11_refuse (-5) C) (f_X12_refuse (-5) R) := ends_ref_k h 4 (by omega) (by decide +kernel) (by decide +kernel)
theorem ref6 {C R : mm_M} (h : Rel C R) : ends (f_X11_refuse (-6) C) (f_X12_refuse (-6) R) := ends_ref_k h 5 (by omega) (by decide +kernel) (by decide +kernel)
theorem z1 : ((-1 : Int32) = 0) = False := by decide +kernel
theorem z2 : ((-2 : Int32) = 0) = False := by decide +kernel
theorem z3 : ((-3 : Int32) = 0) = False := by decide +kernel
theorem z4 : ((-4 : Int32) = 0) = False := by decide +kernel
theorem z5 : ((-5 : Int32) = 0) = False := by decide +kernel
theorem z6 : ((-6 : Int32) = 0) = False := by decide +kernel
theorem z01 : ((1 : Int32) = 0) = False := by decide +kernel
theorem z00 : ((0 : Int32) = 0) = True := by decide +kernel
theorem i32t (x : Int32) : -2147483648 ≤ x.toInt ∧ x.toInt ≤ 2147483647 := ⟨Int32.le_toInt x, Int32.toInt_le x⟩
/-- within lo .. hi, or not -/
theorem out_of {a lo hi : Int32} (M : mm_M) : (lo ≤ a ∧ a ≤ hi ∧ f_X11_outside a lo hi M = some (0, M)) ∨ (lo ≤ a ∧ ¬ a ≤ hi ∧ f_X11_outside a lo hi M = some (-6, M)) ∨ (¬ lo ≤ a ∧ f_X11_outside a lo hi M = some (-4, M)) := by
  unfold f_X11_outside
  by_cases h1 : lo ≤ a
  · by_cases h2 : a ≤ hi
    · exact Or.inl ⟨h1, h2, by rw [if_pos h1, if_pos h2]⟩
    · exact Or.inr (Or.inl ⟨h1, h2, by rw [if_pos h1, if_neg h2]⟩)
  · exact Or.inr (Or.inr ⟨h1, by rw [if_neg h1]⟩)
/-- a number below n (its nI), or none -/
theorem ix_of (a : Int32) {n : Nat} (hn : n ≤ 100000) : (∃ j, j < n ∧ a = nI j) ∨ (a < 0 ∨ nI n ≤ a) := by
  rcases pk_ix a (n := n) (by omega) with h | h | h
  · exact Or.inr (Or.inl h)
  · exact Or.inr (Or.inr h)
  · exact Or.inl h
theorem has_y {C : mm_M} {n j : Nat} (h : C.1 2 8 = nI n) (hn : n ≤ 40) (hj : j < n) : f_X6_has (nI j) C = some (1, C) := by
  unfold f_X6_has mI
  rw [h, if_neg (nI_pos (by omega)), if_neg (nI_ge hj (by omega))]
theorem has_n {C : mm_M} {n : Nat} {a : Int32} (h : C.1 2 8 = nI n) (ha : a < 0 ∨ nI n ≤ a) : f_X6_has a C = some (0, C) := by
  unfold f_X6_has mI
  rw [h]
  by_cases h0 : a < 0
  · rw [if_pos h0]
  · rw [if_neg h0, if_pos (by rcases ha with q | q; exact absurd q h0; exact q)]
theorem in_y {a lo hi : Int32} (M : mm_M) (h1 : lo ≤ a) (h2 : a ≤ hi) : f_X12_in a lo hi M = some (1, M) := by
  unfold f_X12_in
  rw [if_neg (by rw [Int32.lt_iff_toInt_lt]; rw [Int32.le_iff_toInt_le] at h1; omega), if_neg (by rw [Int32.lt_iff_toInt_lt]; rw [Int32.le_iff_toInt_le] at h2; omega)]
theorem in_n {a lo hi : Int32} (M : mm_M) (h : a < lo ∨ hi < a) : f_X12_in a lo hi M = some (0, M) := by
  unfold f_X12_in
  by_cases h0 : a < lo
  · rw [if_pos h0]
  · rw [if_neg h0, if_pos (by rcases h with q | q; exact absurd q h0; exact q)]
theorem isShop_y {R : mm_M} {n j : Nat} (h : R.1 0 2 = nI n) (hn : n ≤ 40) (hj : j < n) : f_X12_isShop (nI j) R = some (1, R) := by
  unfold f_X12_isShop mI
  rw [h, show nI n - 1 = nI (n - 1) from pk_sub (b := 1) (by omega), in_y R (nI_pos' (by omega)) (nI_le (by omega) (by omega)), bi_, bz1]
theorem isShop_n {R : mm_M} {n : Nat} {a : Int32} (h : R.1 0 2 = nI n) (hn : n ≤ 40) (ha : a < 0 ∨ nI n ≤ a) : f_X12_isShop a R = some (0, R) := by
  unfold f_X12_isShop mI
  rw [h, in_n R, bi_, bz0]
  rcases ha with q | q
  · exact Or.inl q
  · refine Or.inr ?_
    rw [Int32.lt_iff_toInt_lt, show (nI n - 1).toInt = (n : Int) - (1 : Nat) from pk_sub_toInt (b := 1) (by omega) (by omega)]
    rw [Int32.le_iff_toInt_le, nI_toInt (by omega)] at q
    omega
/-- a kind (5 of them), a ward (4): the reference's question and the class's -/
theorem in_ix {a hi : Int32} {n : Nat} (M : mm_M) (hn : n < 1000) (hh : hi.toInt = n) (ha : a < 0 ∨ nI (n + 1) ≤ a) : f_X12_in a 0 hi M = some (0, M) := by
  refine in_n M ?_
  rcases ha with q | q
  · exact Or.inl q
  · refine Or.inr ?_
    rw [Int32.lt_iff_toInt_lt, hh]
    rw [Int32.le_iff_toInt_le, nI_toInt (by omega)] at q
    omega
theorem in_jx {hi : Int32} {n j : Nat} (M : mm_M) (hn : n < 1000) (hh : hi.toInt = n) (hj : j < n + 1) : f_X12_in (nI j) 0 hi M = some (1, M) := by
  refine in_y M (nI_pos' (by omega)) ?_
  rw [Int32.le_iff_toInt_le, hh, nI_toInt (by omega)]
  omega

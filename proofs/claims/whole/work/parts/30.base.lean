/-! THE PURE PART: plain functions over the two memories. Reading a cell: M.1 o i (ints), M.2 o i (longs). -/
theorem s1 (M : mm_M) (o i : Nat) (v : Int32) (a : Nat) : (sI M o i v).1 a = if a = o then upd (M.1 o) i v else M.1 a := by
  funext b
  by_cases h : a = o
  · subst h
    simp [sI, upd]
  · simp [sI, h]
theorem s2 (M : mm_M) (o i : Nat) (v : Int32) : (sI M o i v).2 = M.2 := rfl
theorem l1 (M : mm_M) (o i : Nat) (v : Int64) : (sL M o i v).1 = M.1 := rfl
theorem l2 (M : mm_M) (o i : Nat) (v : Int64) (a : Nat) : (sL M o i v).2 a = if a = o then vp_updL (M.2 o) i v else M.2 a := by
  funext b
  by_cases h : a = o
  · subst h
    simp [sL, vp_updL]
  · simp [sL, h]
theorem upd_at (f : Nat → Int32) (k : Nat) (x : Int32) (j : Nat) : upd f k x j = if j = k then x else f j := rfl
theorem updL_at (f : Nat → Int64) (k : Nat) (x : Int64) (j : Nat) : vp_updL f k x j = if j = k then x else f j := rfl
theorem upd_id (f : Nat → Int32) (k : Nat) : upd f k (f k) = f := by
  funext j
  unfold upd
  split
  · subst_vars; rfl
  · rfl
theorem ckI {α : Type} {j n : Nat} {X : Option α} (h : j < n) (hn : n ≤ 100000) : mm_ck (nI j) n X = X := by
  unfold mm_ck
  rw [if_neg (nI_in h (by omega))]
theorem clI {j : Nat} (h : j < 2 ^ 31) : (nI j).toNatClampNeg = j := nI_clamp h
theorem fuP : ∃ n, mm_fu = n + 1 := ⟨99999, rfl⟩
theorem fuGt {k : Nat} (h : k < 100000) : k < mm_fu := h
theorem let_ {σ α : Type} (x : σ) (k : σ → Option α) : mm_let x k = k x := rfl
theorem bi_ {σ α : Type} (x : σ) (M : mm_M) (k : σ → mm_M → Option α) : mm_bi (some (x, M)) k = k x M := rfl
theorem bv_ {α : Type} (M : mm_M) (k : mm_M → Option α) : mm_bv (some M) k = k M := rfl
theorem bz0 {α : Type} (X : Option α) : mm_bz 0 X = X := rfl
theorem bz1 {α : Type} (X : Option α) : mm_bz 1 X = X := rfl
theorem a11 : (1 : Int32) &&& 1 = 1 := rfl
theorem a01 : (0 : Int32) &&& 1 = 0 := rfl
/-- a number is below 0, or a natural one -/
theorem i32_cases (x : Int32) : x < 0 ∨ ∃ j : Nat, j < 2 ^ 31 ∧ x = nI j := by
  by_cases h : x < 0
  · exact Or.inl h
  · exact Or.inr (nI_of h)
theorem ltz (j : Nat) (h : j < 2 ^ 31) : ¬ nI j < 0 := nI_pos h
/-! ranges of the reference's memory; each takes the rows that it speaks of -/
def rng (x : Int32) (lo hi : Nat) : Prop := ∃ k, x = nI k ∧ lo ≤ k ∧ k ≤ hi
def iShop (d n : Nat) (ki wa x y we op ow fr : Nat → Int32) : Prop :=
  (∀ j, j < n → rng (ki j) 0 4 ∧ rng (wa j) 0 3 ∧ rng (x j) 0 60 ∧ rng (y j) 0 60 ∧ rng (we j) 1 20 ∧ rng (op j) 0 1 ∧ ∃ o, ow j = nI o ∧ 1 ≤ o ∧ o ≤ 6 ∧ ∃ e0, fr (6 * j) = nI e0 ∧ ∀ k, k < o → rng (fr (6 * j + k)) e0 d) ∧ ∀ j, n ≤ j → ow j = 0
def iKid (is bo gs g kn : Nat → Int32) : Prop :=
  ∀ c, c < 8 → rng (is c) 0 1 ∧ (is c = 1 → ∃ b, bo c = -nI b ∧ 3000 ≤ b ∧ b ≤ 7000) ∧ rng (gs c) 0 12 ∧ (∀ k, k < 12 → rng (g (12 * c + k)) 0 25) ∧ ∀ s, s < 40 → rng (kn (40 * c + s)) 0 1
def iTest (d n t : Nat) (is fr sh ch da ho bi kn vo : Nat → Int32) : Prop :=
  (∀ k, k < t → ∃ s c e, sh k = nI s ∧ s < n ∧ ch k = nI c ∧ c < 8 ∧ is c = 1 ∧ da k = nI e ∧ e ≤ d ∧ (∃ e0, fr (6 * s) = nI e0 ∧ e0 ≤ e) ∧ rng (ho k) 0 23 ∧ rng (bi k) 0 7 ∧ rng (kn k) 0 d ∧ (vo k = -1 ∨ rng (vo k) 0 d)) ∧
  ∀ i j a b, i < j → j < t → a ≤ 2000 → b ≤ 2000 → da i = nI a → da j = nI b → a ≤ b
def iRule (u : Nat) (us da : Nat → Int32) : Prop := ∀ r, r < u → rng (us r) 0 4 ∧ rng (da r) 0 2000
def iClerk (n w : Nat) (wh sh fr to da : Nat → Int32) : Prop :=
  ∀ k, k < w → rng (wh k) 0 9 ∧ (∃ s, sh k = nI s ∧ s < n) ∧ rng (fr k) 0 23 ∧ rng (to k) 1 24 ∧ rng (da k) 0 2000
def iTape (by_ : Nat → Int32) : Prop := ∀ k, k < 80 → rng (by_ k) 0 255
def iCost (co : Nat → Int32) : Prop := ∀ k, k < 5 → rng (co k) 0 500
def i01 (f : Nat → Int32) : Prop := ∀ s, s < 40 → rng (f s) 0 1
/-- how many of the first m are not 0 -/
def cnt (f : Nat → Int32) : Nat → Nat
  | 0 => 0
  | m + 1 => cnt f m + if f m = 0 then 0 else 1
/-- d the day, n shops, t tests, u rules, v bytes on the tape, w stands -/
def iScal (f : Nat → Int32) (d n t u v w : Nat) : Prop :=
  (f 1 = nI d ∧ d ≤ 2000) ∧ (f 2 = nI n ∧ n ≤ 40) ∧ (f 43 = nI t ∧ t ≤ 100) ∧ (f 28 = nI u ∧ u ≤ 20) ∧ (f 27 = nI v ∧ v ≤ 80) ∧ (f 70 = nI w ∧ w ≤ 40) ∧ rng (f 60) 0 2000
def Inv (R : mm_M) (d n t u v w : Nat) : Prop :=
  iScal (R.1 0) d n t u v w ∧ iShop d n (R.1 1) (R.1 2) (R.1 3) (R.1 4) (R.1 5) (R.1 6) (R.1 7) (R.1 8) ∧ iKid (R.1 9) (R.1 10) (R.1 11) (R.1 12) (R.1 13) ∧ iTest d n t (R.1 9) (R.1 8) (R.1 28) (R.1 29) (R.1 30) (R.1 31) (R.1 32) (R.1 33) (R.1 34) ∧ iRule u (R.1 20) (R.1 21) ∧ iClerk n w (R.1 49) (R.1 50) (R.1 51) (R.1 52) (R.1 53) ∧ iTape (R.1 19) ∧ iCost (R.1 54) ∧ i01 (R.1 15) ∧ i01 (R.1 47)
/-- what both memories hold alike -/
def rBase (C R : mm_M) : Prop :=
  (C.1 0 16 = R.1 0 1 ∧ C.1 2 8 = R.1 0 2 ∧ C.1 4 7 = R.1 0 43 ∧ C.1 5 5 = R.1 0 28 ∧ C.1 9 2 = R.1 0 27 ∧ C.1 13 7 = R.1 0 70 ∧ C.1 0 17 = R.1 0 60) ∧
  (C.1 26 = R.1 1 ∧ C.1 27 = R.1 2 ∧ C.1 28 = R.1 3 ∧ C.1 29 = R.1 4 ∧ C.1 30 = R.1 5 ∧ C.1 31 = R.1 6 ∧ C.1 32 = R.1 7 ∧ C.1 33 = R.1 8) ∧
  (C.1 34 = R.1 9 ∧ C.1 35 = R.1 10 ∧ C.1 36 = R.1 11 ∧ C.1 37 = R.1 12 ∧ C.1 38 = R.1 13) ∧
  (C.1 39 = R.1 28 ∧ C.1 40 = R.1 29 ∧ C.1 41 = R.1 30 ∧ C.1 42 = R.1 31 ∧ C.1 43 = R.1 32 ∧ C.1 44 = R.1 33 ∧ C.1 45 = R.1 34) ∧
  (C.1 46 = R.1 20 ∧ C.1 47 = R.1 21 ∧ C.1 59 = R.1 19 ∧ C.1 15 = R.1 54 ∧ C.1 16 = R.1 47 ∧ C.1 51 = R.1 15) ∧
  (C.1 68 = R.1 49 ∧ C.1 69 = R.1 50 ∧ C.1 70 = R.1 51 ∧ C.1 71 = R.1 52 ∧ C.1 72 = R.1 53)
def rRef (f g : Nat → Int32) : Prop := ∀ i, i < 6 → f i = g (i + 1)
/-- the letters given are as many as the shops that have one -/
def rLet (z : Int32) (f : Nat → Int32) : Prop := z = nI (cnt f 40)
/-- the latest draw: size, rest and restWeight of the class's row f, inside, sure, weights; against hasDraw, partTop and partBelow -/
def drTop (r i s g : Nat) : Nat := if i = 0 then 0 else if s = 0 then r * g else 1
def drBel (q i s : Nat) : Nat := if i = 0 then 1 else if s = 0 then q else 1
def rDraw (f ins su we tk : Nat → Int32) (has : Int32) (top bel : Nat → Int32) : Prop :=
  f 6 = nI (cnt tk 40) ∧ ((f 6 = 0 ∧ has = 0) ∨ (f 6 ≠ 0 ∧ has ≠ 0 ∧ ∃ r q, f 4 = nI r ∧ f 5 = nI q ∧ r ≤ 40 ∧ q ≤ 800 ∧ ∀ j, j < 40 → ∃ i s g, ins j = nI i ∧ i ≤ 1 ∧ su j = nI s ∧ s ≤ 1 ∧ we j = nI g ∧ g ≤ 20 ∧ 1 ≤ drBel q i s ∧ top j = nI (drTop r i s g / Nat.gcd (drTop r i s g) (drBel q i s)) ∧ bel j = nI (drBel q i s / Nat.gcd (drTop r i s g) (drBel q i s)) ∧ (¬ tk j = 0 → 1 ≤ drTop r i s g)))

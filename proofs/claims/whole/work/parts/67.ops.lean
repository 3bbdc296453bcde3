/-! the reference's stacks -/
def stk (row : Nat → Int32) : List Int32 → Prop
  | [] => True
  | x :: l => row l.length = x ∧ stk row l
theorem stk_eq {f g : Nat → Int32} : ∀ {l : List Int32}, stk f l → (∀ i, i < l.length → g i = f i) → stk g l := by
  intro l
  induction l with
  | nil => exact fun _ _ => trivial
  | cons x l ih => exact fun h e => ⟨by rw [e l.length (by show l.length < l.length + 1; omega)]; exact h.1, ih h.2 (fun i hi => e i (by show i < l.length + 1; omega))⟩
theorem stk_push {f : Nat → Int32} {l : List Int32} (x : Int32) (h : stk f l) : stk (upd f l.length x) (x :: l) := ⟨if_pos rfl, stk_eq h (fun i hi => if_neg (by omega))⟩
def top_ : List Int32 → Int32
  | [] => 0
  | x :: _ => x
def bl01 (l : List Int32) : Prop := ∀ x, x ∈ l → x = 0 ∨ x = 1
/-- the reference at p, its signs, what it holds, how deep; signs and held were read -/
def rS (by_ : Nat → Int32) (z : Nat) (R : mm_M) (p : Nat) (sg he : List Int32) (d : Nat) : Prop := rAt by_ z R p ∧ R.1 0 39 = nI sg.length ∧ stk (R.1 26) sg ∧ R.1 0 41 = nI he.length ∧ stk (R.1 27) he ∧ R.1 0 42 = nI d ∧ sg.length ≤ p ∧ he.length ≤ p ∧ d ≤ 6 ∧ bl01 he
theorem kpT_r (R : mm_M) : kpT R R := ⟨fun _ _ _ _ => rfl, fun _ _ _ _ _ _ => rfl⟩
theorem kpT_t {A B C : mm_M} (h : kpT A B) (g : kpT B C) : kpT A C := ⟨fun a h1 h2 h3 => (g.1 a h1 h2 h3).trans (h.1 a h1 h2 h3), fun j h1 h2 h3 h4 h5 => (g.2 j h1 h2 h3 h4 h5).trans (h.2 j h1 h2 h3 h4 h5)⟩
theorem kpT_f {R R' : mm_M} (h : rFr R R') : kpT R R' := ⟨fun a h1 _ _ => h.1 a h1, fun j h1 h2 _ _ _ => h.2 j h1 h2⟩
theorem kpT_0 (R : mm_M) (i : Nat) (x : Int32) (h : i = 35 ∨ i = 36 ∨ i = 39 ∨ i = 41 ∨ i = 42) : kpT R (sI R 0 i x) := ⟨fun a a1 _ _ => by simp only [s1, s2, l1, l2, upd_at, Nat.reduceEqDiff, reduceIte, a1], fun j h1 h2 h3 h4 h5 => by
  have : j ≠ i := by omega
  simp only [s1, s2, l1, l2, upd_at, Nat.reduceEqDiff, reduceIte, this]⟩
theorem kpT_26 (R : mm_M) (i : Nat) (x : Int32) : kpT R (sI R 26 i x) := ⟨fun a _ a2 _ => by simp only [s1, s2, l1, l2, upd_at, Nat.reduceEqDiff, reduceIte, a2], fun j _ _ _ _ _ => by simp only [s1, s2, l1, l2, upd_at, Nat.reduceEqDiff, reduceIte]⟩
theorem kpT_27 (R : mm_M) (i : Nat) (x : Int32) : kpT R (sI R 27 i x) := ⟨fun a _ _ a3 => by simp only [s1, s2, l1, l2, upd_at, Nat.reduceEqDiff, reduceIte, a3], fun j _ _ _ _ _ => by simp only [s1, s2, l1, l2, upd_at, Nat.reduceEqDiff, reduceIte]⟩
theorem rAt_k {by_ : Nat → Int32} {z p : Nat} {R R' : mm_M} (h : rAt by_ z R p) (g : kpT R R') (h35 : R'.1 0 35 = nI p) (h36 : R'.1 0 36 = 0) : rAt by_ z R' p := ⟨by rw [g.2 34 (by omega) (by omega) (by omega) (by omega) (by omega)]; exact h.1, h35, h36, fun k hk => by rw [g.1 24 (by omega) (by omega) (by omega)]; exact h.2.2.2.1 k hk, h.2.2.2.2⟩
theorem top_ok {by_ : Nat → Int32} {z p d : Nat} {R : mm_M} {sg he : List Int32} (h : rS by_ z R p sg he d) (hz : z ≤ 80) : f_X12_topSign R = some (top_ sg, R) := by
  obtain ⟨h1, h2, h3, h4, h5, h6, h7, h8, h9, h10⟩ := h
  have hp := h1.2.2.2.2
  unfold f_X12_topSign mI
  rw [h2]
  cases sg with
  | nil => rfl
  | cons x l =>
    have hl : l.length + 1 ≤ p := h7
    rw [if_neg (nI_ne0 (by show 0 < l.length + 1; omega) (by show l.length + 1 < 2 ^ 31; omega)), show nI (x :: l).length - 1 = nI l.length from nI_pred l.length, ckI (by omega) (by omega), clI (by omega), h3.1]
    rfl
def jn (s b1 b2 : Int32) : Int32 := if s = 38 then (if b1 = 0 then 0 else if b2 = 0 then 0 else 1) else (if b1 = 0 then (if b2 = 0 then 0 else 1) else 1)
theorem jn01 (s b1 b2 : Int32) : jn s b1 b2 = 0 ∨ jn s b1 b2 = 1 := by
  unfold jn
  split
  · split
    · exact Or.inl rfl
    · split
      · exact Or.inl rfl
      · exact Or.inr rfl
  · split
    · split
      · exact Or.inl rfl
      · exact Or.inr rfl
    · exact Or.inr rfl
theorem set94 {by_ : Nat → Int32} {z p d : Nat} {R : mm_M} {s b1 b2 x1 y : Int32} {sg he : List Int32} (k0 : Int32 → mm_M → Option mm_M) (h : rS by_ z R p (s :: sg) (b2 :: b1 :: he) d) (hz : z ≤ 80) (hy : y = 0 ∨ y = 1) : ∃ R', f_X12_settle_94 k0 x1 (nI he.length) y R = k0 x1 R' ∧ rS by_ z R' p sg (y :: he) d ∧ kpT R R' := by
  obtain ⟨h1, h2, h3, h4, h5, h6, h7, h8, h9, h10⟩ := h
  have hp := h1.2.2.2.2
  have l1' : sg.length + 1 ≤ p := h7
  have l2' : he.length + 1 + 1 ≤ p := h8
  have e41 : R.1 0 41 - 1 = nI (he.length + 1) := by rw [h4]; exact nI_pred (he.length + 1)
  have e39 : R.1 0 39 - 1 = nI sg.length := by rw [h2]; exact nI_pred sg.length
  unfold f_X12_settle_94
  rw [ckI (by omega) (by omega), let_, let_, let_, clI (by omega), bw1 hy]
  unfold mI
  simp only [s1, s2, l1, l2, upd_at, Nat.reduceEqDiff, reduceIte, e41, e39]
  refine ⟨_, rfl, ⟨rAt_k h1 (kpT_t (kpT_27 _ _ _) (kpT_t (kpT_0 _ 41 _ (by omega)) (kpT_0 _ 39 _ (by omega)))) (by simp only [s1, s2, l1, l2, upd_at, Nat.reduceEqDiff, reduceIte]; exact h1.2.1) (by simp only [s1, s2, l1, l2, upd_at, Nat.reduceEqDiff, reduceIte]; exact h1.2.2.1), ?_, ?_, ?_, ?_, ?_, by omega, ?_, h9, ?_⟩, kpT_t (kpT_27 _ _ _) (kpT_t (kpT_0 _ 41 _ (by omega)) (kpT_0 _ 39 _ (by omega)))⟩
  · simp only [s1, s2, l1, l2, upd_at, Nat.reduceEqDiff, reduceIte]
  · simp only [s1, s2, l1, l2, upd_at, Nat.reduceEqDiff, reduceIte]
    exact h3.2
  · simp only [s1, s2, l1, l2, upd_at, Nat.reduceEqDiff, reduceIte]
    rfl
  · simp only [s1, s2, l1, l2, upd_at, Nat.reduceEqDiff, reduceIte]
    exact stk_push y h5.2.2
  · simp only [s1, s2, l1, l2, upd_at, Nat.reduceEqDiff, reduceIte]
    exact h6
  · show he.length + 1 ≤ p
    omega
  · intro x hx
    rcases List.mem_cons.mp hx with q | q
    · rw [q]
      exact hy
    · exact h10 x (List.mem_cons_of_mem _ (List.mem_cons_of_mem _ q))
theorem set22 {by_ : Nat → Int32} {z p d : Nat} {R : mm_M} {s b1 b2 x1 : Int32} {sg he : List Int32} (k0 : Int32 → mm_M → Option mm_M) (h : rS by_ z R p (s :: sg) (b2 :: b1 :: he) d) (hz : z ≤ 80) : ∃ R', f_X12_settle_22 k0 x1 R = k0 x1 R' ∧ rS by_ z R' p sg (jn s b1 b2 :: he) d ∧ kpT R R' := by
  have h' := h
  obtain ⟨h1, h2, h3, h4, h5, h6, h7, h8, h9, h10⟩ := h'
  have hp := h1.2.2.2.2
  have l2' : he.length + 1 + 1 ≤ p := h8
  have e41 : R.1 0 41 - 1 = nI (he.length + 1) := by rw [h4]; exact nI_pred (he.length + 1)
  have e42 : R.1 0 41 - 2 = nI he.length := by rw [h4]; exact pk_sub (a := he.length + 1 + 1) (b := 2) (by omega)
  have v1 : R.1 27 (he.length + 1) = b2 := h5.1
  have v2 : R.1 27 he.length = b1 := h5.2.1
  have key : f_X12_settle_22 k0 x1 R = f_X12_settle_94 k0 x1 (nI he.length) (jn s b1 b2) R := by
    unfold f_X12_settle_22 f_X12_settle_77 f_X12_settle_89 mI
    rw [e41, ckI (by omega) (by omega), let_, e42, ckI (by omega) (by omega), let_, top_ok h hz, bi_, clI (by omega), clI (by omega), v1, v2]
    show (if s = 38 then _ else _) = _
    unfold jn
    by_cases a : s = 38 <;> by_cases b : b1 = 0 <;> by_cases c : b2 = 0 <;> simp only [a, b, c, reduceIte]
  rw [key]
  exact set94 k0 h hz (jn01 s b1 b2)
theorem set_step {by_ : Nat → Int32} {z p d n : Nat} {R : mm_M} {s b1 b2 x1 : Int32} {sg he : List Int32} (h : rS by_ z R p (s :: sg) (b2 :: b1 :: he) d) (hz : z ≤ 80) (hs : s = 38 ∨ (s = 124 ∧ ¬ x1 = 0)) : ∃ R', f_X12_settle_L0 (n + 1) x1 R = f_X12_settle_L0 n x1 R' ∧ rS by_ z R' p sg (jn s b1 b2 :: he) d ∧ kpT R R' := by
  obtain ⟨R', g1, g2, g3⟩ := set22 (x1 := x1) (f_X12_settle_L0 n) h hz
  refine ⟨R', ?_, g2, g3⟩
  rw [← g1]
  conv => lhs; unfold f_X12_settle_L0
  rw [top_ok h hz, bi_]
  rcases hs with e | ⟨e, e2⟩
  · rw [show top_ (s :: sg) = 38 from e, if_pos rfl]
  · rw [show top_ (s :: sg) = 124 from e, if_neg (by decide +kernel), if_neg e2, top_ok h hz, bi_, show top_ (s :: sg) = 124 from e, if_pos rfl]
theorem set_stop {by_ : Nat → Int32} {z p d n : Nat} {R : mm_M} {x1 : Int32} {sg he : List Int32} (h : rS by_ z R p sg he d) (hz : z ≤ 80) (h38 : ¬ top_ sg = 38) (h124 : x1 = 0 ∨ ¬ top_ sg = 124) (hn : 0 < n) : f_X12_settle_L0 n x1 R = some R := by
  obtain ⟨n, rfl⟩ : ∃ q, n = q + 1 := ⟨n - 1, by omega⟩
  unfold f_X12_settle_L0
  rw [top_ok h hz, bi_, if_neg h38]
  by_cases e : x1 = 0
  · rw [if_pos e]
  · rw [if_neg e, top_ok h hz, bi_, if_neg (h124.resolve_left e)]
theorem nots_step {by_ : Nat → Int32} {z p d n : Nat} {R : mm_M} {b : Int32} {sg he : List Int32} (h : rS by_ z R p (33 :: sg) (b :: he) (d + 1)) (hz : z ≤ 80) : ∃ R', f_X12_settleNots_L0 (n + 1) R = f_X12_settleNots_L0 n R' ∧ rS by_ z R' p sg ((if b = 0 then 1 else 0) :: he) d ∧ kpT R R' := by
  have h' := h
  obtain ⟨h1, h2, h3, h4, h5, h6, h7, h8, h9, h10⟩ := h'
  have hp := h1.2.2.2.2
  have l1' : sg.length + 1 ≤ p := h7
  have l2' : he.length + 1 ≤ p := h8
  have e41 : R.1 0 41 - 1 = nI he.length := by rw [h4]; exact nI_pred he.length
  have e39 : R.1 0 39 - 1 = nI sg.length := by rw [h2]; exact nI_pred sg.length
  have e42 : R.1 0 42 - 1 = nI d := by rw [h6]; exact nI_pred d
  have v1 : R.1 27 he.length = b := h5.1
  have key : ∀ y : Int32, (y = 0 ∨ y = 1) → ∃ R', f_X12_settleNots_38 (f_X12_settleNots_L0 n) (nI he.length) y R = f_X12_settleNots_L0 n R' ∧ rS by_ z R' p sg (y :: he) d ∧ kpT R R' := by
    intro y hy
    unfold f_X12_settleNots_38
    rw [ckI (by omega) (by omega), let_, let_, let_, clI (by omega), bw1 hy]
    unfold mI
    simp only [s1, s2, l1, l2, upd_at, Nat.reduceEqDiff, reduceIte, e42, e39]
    refine ⟨_, rfl, ⟨rAt_k h1 (kpT_t (kpT_27 _ _ _) (kpT_t (kpT_0 _ 39 _ (by omega)) (kpT_0 _ 42 _ (by omega)))) (by simp only [s1, s2, l1, l2, upd_at, Nat.reduceEqDiff, reduceIte]; exact h1.2.1) (by simp only [s1, s2, l1, l2, upd_at, Nat.reduceEqDiff, reduceIte]; exact h1.2.2.1), ?_, ?_, ?_, ?_, ?_, by omega, ?_, by omega, ?_⟩, kpT_t (kpT_27 _ _ _) (kpT_t (kpT_0 _ 39 _ (by omega)) (kpT_0 _ 42 _ (by omega)))⟩
    · simp only [s1, s2, l1, l2, upd_at, Nat.reduceEqDiff, reduceIte]
    · simp only [s1, s2, l1, l2, upd_at, Nat.reduceEqDiff, reduceIte]
      exact h3.2
    · simp only [s1, s2, l1, l2, upd_at, Nat.reduceEqDiff, reduceIte]
      exact h4
    · simp only [s1, s2, l1, l2, upd_at, Nat.reduceEqDiff, reduceIte]
      exact stk_push y h5.2
    · simp only [s1, s2, l1, l2, upd_at, Nat.reduceEqDiff, reduceIte]
    · show he.length + 1 ≤ p
      omega
    · intro x hx
      rcases List.mem_cons.mp hx with q | q
      · rw [q]
        exact hy
      · exact h10 x (List.mem_cons_of_mem _ q)
  conv => enter [1, R', 1, 1]; unfold f_X12_settleNots_L0
  rw [top_ok h hz, bi_, if_pos (show top_ (33 :: sg) = 33 from rfl)]
  unfold mI
  rw [e41, ckI (by omega) (by omega), clI (by omega), v1]
  by_cases e : b = 0
  · rw [if_pos e, if_pos e]
    exact key 1 (Or.inr rfl)
  · rw [if_neg e, if_neg e]
    exact key 0 (Or.inl rfl)
theorem nots_stop {by_ : Nat → Int32} {z p d n : Nat} {R : mm_M} {sg he : List Int32} (h : rS by_ z R p sg he d) (hz : z ≤ 80) (h33 : ¬ top_ sg = 33) (hn : 0 < n) : f_X12_settleNots_L0 n R = some R := by
  obtain ⟨n, rfl⟩ : ∃ q, n = q + 1 := ⟨n - 1, by omega⟩
  unfold f_X12_settleNots_L0
  rw [top_ok h hz, bi_, if_neg h33]
theorem wait_ok {by_ : Nat → Int32} {z p d : Nat} {R : mm_M} {sg he : List Int32} (s : Int32) (h : rS by_ z R p sg he d) (hz : z ≤ 80) (hp : p < z) : ∃ R', f_X12_wait s R = some R' ∧ rS by_ z R' (p + 1) (s :: sg) he d ∧ kpT R R' := by
  obtain ⟨h1, h2, h3, h4, h5, h6, h7, h8, h9, h10⟩ := h
  unfold f_X12_wait mI
  rw [h2, ckI (by omega) (by omega), let_, let_, let_, clI (by omega)]
  simp only [s1, s2, l1, l2, upd_at, Nat.reduceEqDiff, reduceIte, h2, h1.2.1, add1]
  have hk : kpT R (sI (sI (sI R 26 sg.length s) 0 39 (nI (sg.length + 1))) 0 35 (nI (p + 1))) := kpT_t (kpT_26 _ _ _) (kpT_t (kpT_0 _ 39 _ (by omega)) (kpT_0 _ 35 _ (by omega)))
  refine ⟨_, rfl, ⟨⟨by rw [hk.2 34 (by omega) (by omega) (by omega) (by omega) (by omega)]; exact h1.1, by simp only [s1, s2, l1, l2, upd_at, Nat.reduceEqDiff, reduceIte], by simp only [s1, s2, l1, l2, upd_at, Nat.reduceEqDiff, reduceIte]; exact h1.2.2.1, fun k hk2 => by rw [hk.1 24 (by omega) (by omega) (by omega)]; exact h1.2.2.2.1 k hk2, hp⟩, ?_, ?_, ?_, ?_, ?_, ?_, by omega, h9, h10⟩, hk⟩
  · simp only [s1, s2, l1, l2, upd_at, Nat.reduceEqDiff, reduceIte]
    rfl
  · simp only [s1, s2, l1, l2, upd_at, Nat.reduceEqDiff, reduceIte]
    exact stk_push s h3
  · simp only [s1, s2, l1, l2, upd_at, Nat.reduceEqDiff, reduceIte]
    exact h4
  · simp only [s1, s2, l1, l2, upd_at, Nat.reduceEqDiff, reduceIte]
    exact h5
  · simp only [s1, s2, l1, l2, upd_at, Nat.reduceEqDiff, reduceIte]
    exact h6
  · show sg.length + 1 ≤ p + 1
    omega

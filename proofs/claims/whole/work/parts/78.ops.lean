/-! both sides' weighing, i tests in -/
def lsF (st ow : Nat → Int32) (o : Int32) : Nat → Int32
  | 0 => 0
  | i + 1 => if ow i = o ∧ 0 < st i then st i else lsF st ow o i
theorem lsF_eq {st ow st' ow' : Nat → Int32} {o : Int32} : ∀ {i : Nat}, (∀ j, j < i → st' j = st j ∧ ow' j = ow j) → lsF st' ow' o i = lsF st ow o i := by
  intro i
  induction i with
  | zero => exact fun _ => rfl
  | succ i ih =>
    intro h
    obtain ⟨h1, h2⟩ := h i (by omega)
    show (if ow' i = o ∧ 0 < st' i then st' i else lsF st' ow' o i) = (if ow i = o ∧ 0 < st i then st i else lsF st ow o i)
    rw [ih (fun j hj => h j (by omega)), h1, h2]
theorem owT_k {R R' : mm_M} (h : kR R R') (j : Nat) : owT R' j = owT R j := by
  unfold owT
  rw [h.1 8 rfl, h.1 28 rfl, h.1 30 rfl, h.1 7 rfl]
def J (k : Int32) (i : Nat) (C R : mm_M) : Prop :=
  (∀ o, o < 240 → C.1 21 o = R.1 41 o ∧ C.1 22 o = R.1 42 o ∧ C.1 24 o = R.1 39 o ∧ rng (R.1 39 o) 0 4 ∧ rng (R.1 41 o) 0 i ∧ ((R.1 41 o = 0 ∧ C.1 23 o = -1) ∨ (¬ R.1 41 o = 0 ∧ ¬ C.1 23 o = -1 ∧ C.1 23 o = R.1 43 o)) ∧ ((R.1 39 o = 0 ∧ C.1 25 o = -1) ∨ (¬ R.1 39 o = 0 ∧ ¬ C.1 25 o = -1 ∧ C.1 25 o = R.1 40 o)) ∧ R.1 39 o = lsF (R.1 37) (owT R) (nI o) i) ∧
  (∀ c s, c < 8 → s < 40 → C.1 20 (40 * c + s) = nI (vcF (R.1 35) (R.1 29) (R.1 28) (nI c) (nI s) i)) ∧
  (∀ j, j < i → C.1 17 j = R.1 36 j ∧ C.1 18 j = R.1 37 j ∧ R.1 35 j = cbF (R.1 33) (R.1 34) k j ∧ (R.1 36 j = 0 ∨ R.1 36 j = 1) ∧ rng (R.1 37 j) 0 4) ∧
  ∀ j, i ≤ j → j < 100 → C.1 17 j = 0 ∧ C.1 18 j = 0
def NxC (C C' : mm_M) (i w q g sd up gd st e : Nat) (x : Int32) : Prop :=
  (∀ j, j ≠ i → C'.1 17 j = C.1 17 j ∧ C'.1 18 j = C.1 18 j) ∧ C'.1 17 i = nI g ∧ C'.1 18 i = nI (if up = 0 then 0 else st + 1) ∧
  (∀ v, v ≠ w → C'.1 20 v = C.1 20 v) ∧ C'.1 20 w = C.1 20 w + 1 ∧
  (∀ o, o ≠ q → C'.1 21 o = C.1 21 o ∧ C'.1 22 o = C.1 22 o ∧ C'.1 23 o = C.1 23 o ∧ C'.1 24 o = C.1 24 o ∧ C'.1 25 o = C.1 25 o) ∧
  C'.1 21 q = nI (gd + g) ∧ C'.1 22 q = x + nI (g * sd) ∧ C'.1 23 q = (if g = 0 then C.1 23 q else nI e) ∧ C'.1 24 q = nI (st + up) ∧ C'.1 25 q = (if up = 0 then C.1 25 q else nI e)
def NxR (R R' : mm_M) (i q g sd up gd st e : Nat) (x : Int32) : Prop :=
  (∀ j, j ≠ i → R'.1 35 j = R.1 35 j ∧ R'.1 36 j = R.1 36 j ∧ R'.1 37 j = R.1 37 j) ∧ R'.1 35 i = 1 ∧ R'.1 36 i = nI g ∧ R'.1 37 i = nI (if up = 0 then 0 else st + 1) ∧
  (∀ o, o ≠ q → R'.1 41 o = R.1 41 o ∧ R'.1 42 o = R.1 42 o ∧ R'.1 43 o = R.1 43 o ∧ R'.1 39 o = R.1 39 o ∧ R'.1 40 o = R.1 40 o) ∧
  R'.1 41 q = nI (gd + g) ∧ R'.1 42 q = x + nI (g * sd) ∧ R'.1 43 q = (if g = 0 then R.1 43 q else nI e) ∧ R'.1 39 q = nI (st + up) ∧ R'.1 40 q = (if up = 0 then R.1 40 q else nI e)
theorem nI_m1 {a : Nat} (h : a < 2 ^ 31) : ¬ nI a = -1 := fun q => by
  have := nI_pos h
  rw [q] at this
  exact this (by decide +kernel)
theorem J_next {k : Int32} {i n s c e q b g sd up gd st : Nat} {x : Int32} {C R C' R' : mm_M} (hJ : J k i C R) (hi : i < 100) (hn : n ≤ 40) (hr : tRow R n i s c e q b) (hk : kR R R') (hcb : cbF (R.1 33) (R.1 34) k i = 1) (hc : NxC C C' i (40 * c + s) q g sd up gd st e x) (hR : NxR R R' i q g sd up gd st e x) (hg : g ≤ 1) (hup : up ≤ 1) (hst : st + up ≤ 4) (hgd : R.1 41 q = nI gd) (hstq : R.1 39 q = nI st) (hx : R.1 42 q = x) (hgi : gd ≤ i) : J k (i + 1) C' R' := by
  obtain ⟨j1, j2, j3, j4⟩ := hJ
  obtain ⟨t1, t2, t3, t4, t5, t6, t7, t8, t9, t10, t11⟩ := hr
  obtain ⟨c1, c2, c3, c4, c5, c6, c7, c8, c9, c10, c11⟩ := hc
  obtain ⟨r1, r2, r3, r4, r5, r6, r7, r8, r9, r10⟩ := hR
  have hq : q < 240 := by omega
  have k28 := hk.1 28 rfl
  have k29 := hk.1 29 rfl
  have k33 := hk.1 33 rfl
  have k34 := hk.1 34 rfl
  have hls : ∀ o : Int32, lsF (R'.1 37) (owT R') o i = lsF (R.1 37) (owT R) o i := fun o => lsF_eq (fun j hj => ⟨(r1 j (by omega)).2.2, owT_k hk j⟩)
  have hvc : ∀ c' s' : Int32, vcF (R'.1 35) (R'.1 29) (R'.1 28) c' s' i = vcF (R.1 35) (R.1 29) (R.1 28) c' s' i := fun c' s' => vcF_eq (fun j hj => ⟨(r1 j (by omega)).1, by rw [k29], by rw [k28]⟩)
  refine ⟨fun o ho => ?_, fun c' s' hc' hs' => ?_, fun j hj => ?_, fun j h1 h2 => ?_⟩
  · by_cases eo : o = q
    · subst eo
      obtain ⟨a1, a2, a3, a4, a5, a6, a7, a8⟩ := j1 o ho
      rw [c7, c8, c9, c10, c11, r6, r7, r8, r9, r10]
      refine ⟨rfl, rfl, rfl, ⟨_, rfl, by omega, hst⟩, ⟨_, rfl, by omega, by omega⟩, ?_, ?_, ?_⟩
      · rcases (show g = 0 ∨ g = 1 by omega) with z | z
        · rw [z, Nat.add_zero, if_pos rfl, if_pos rfl, ← hgd]
          exact a6
        · rw [z, if_neg (by omega), if_neg (by omega)]
          exact Or.inr ⟨nI_ne0 (by omega) (by omega), nI_m1 (by omega), rfl⟩
      · rcases (show up = 0 ∨ up = 1 by omega) with z | z
        · rw [z, Nat.add_zero, if_pos rfl, if_pos rfl, ← hstq]
          exact a7
        · rw [z, if_neg (by omega), if_neg (by omega)]
          exact Or.inr ⟨nI_ne0 (by omega) (by omega), nI_m1 (by omega), rfl⟩
      · show nI (st + up) = (if owT R' i = nI o ∧ 0 < R'.1 37 i then R'.1 37 i else lsF (R'.1 37) (owT R') (nI o) i)
        rw [hls, r4, owT_k hk, t7]
        rcases (show up = 0 ∨ up = 1 by omega) with z | z
        · rw [z, if_pos rfl, if_neg (fun y => absurd y.2 nlt00), Nat.add_zero, ← hstq]
          exact a8
        · rw [z, if_neg (show ¬ 1 = 0 by omega), if_pos ⟨rfl, nI_lt (a := 0) (b := st + 1) (by omega) (by omega)⟩]
    · obtain ⟨b1, b2, b3, b4, b5⟩ := c6 o eo
      obtain ⟨d1, d2, d3, d4, d5⟩ := r5 o eo
      obtain ⟨a1, a2, a3, a4, a5, a6, a7, a8⟩ := j1 o ho
      rw [b1, b2, b3, b4, b5, d1, d2, d3, d4, d5]
      refine ⟨a1, a2, a3, a4, ?_, a6, a7, ?_⟩
      · obtain ⟨z, z1, z2, z3⟩ := a5
        exact ⟨z, z1, z2, by omega⟩
      · show _ = (if owT R' i = nI o ∧ 0 < R'.1 37 i then R'.1 37 i else lsF (R'.1 37) (owT R') (nI o) i)
        rw [if_neg (fun z => by
          have := z.1
          rw [owT_k hk, t7] at this
          exact eo ((nI_eq (by omega) (by omega)).mp this).symm), hls]
        exact a8
  · show C'.1 20 (40 * c' + s') = nI (vcF (R'.1 35) (R'.1 29) (R'.1 28) (nI c') (nI s') i + if ¬ R'.1 35 i = 0 ∧ R'.1 29 i = nI c' ∧ R'.1 28 i = nI s' then 1 else 0)
    rw [hvc, r2, k29, k28, t3, t1]
    by_cases ew : 40 * c' + s' = 40 * c + s
    · have e1' : c' = c := by omega
      have e2' : s' = s := by omega
      rw [e1', e2', c5, if_pos ⟨n10, rfl, rfl⟩, j2 c s t4 (by omega), add1]
    · rw [c4 _ ew, if_neg (fun z => by
        have z1 := (nI_eq (by omega) (by omega)).mp z.2.1
        have z2 := (nI_eq (by omega) (by omega)).mp z.2.2
        exact ew (by omega)), j2 c' s' hc' hs']
      rfl
  · by_cases ej : j = i
    · subst ej
      rw [c2, c3, r2, r3, r4, k33, k34, hcb]
      refine ⟨rfl, rfl, rfl, ?_, ⟨_, rfl, by omega, ?_⟩⟩
      · rcases (show g = 0 ∨ g = 1 by omega) with z | z
        · exact Or.inl (by rw [z]; rfl)
        · exact Or.inr (by rw [z]; rfl)
      · split <;> omega
    · obtain ⟨b1, b2⟩ := c1 j ej
      obtain ⟨d1, d2, d3⟩ := r1 j ej
      rw [b1, b2, d1, d2, d3, k33, k34]
      exact j3 j (by omega)
  · obtain ⟨b1, b2⟩ := c1 j (by omega)
    rw [b1, b2]
    exact j4 j (by omega) h2
/-- a test that does not count -/
theorem J_skip {k : Int32} {i : Nat} {C R R' : mm_M} (hJ : J k i C R) (hi : i < 100) (hk : kR R R') (hcb : cbF (R.1 33) (R.1 34) k i = 0) (r1 : ∀ j, j ≠ i → R'.1 35 j = R.1 35 j ∧ R'.1 36 j = R.1 36 j ∧ R'.1 37 j = R.1 37 j) (r2 : R'.1 35 i = 0) (r3 : R'.1 36 i = 0) (r4 : R'.1 37 i = 0) (r5 : R'.1 39 = R.1 39 ∧ R'.1 40 = R.1 40 ∧ R'.1 41 = R.1 41 ∧ R'.1 42 = R.1 42 ∧ R'.1 43 = R.1 43) : J k (i + 1) C R' := by
  obtain ⟨j1, j2, j3, j4⟩ := hJ
  obtain ⟨d1, d2, d3, d4, d5⟩ := r5
  have k28 := hk.1 28 rfl
  have k29 := hk.1 29 rfl
  have k33 := hk.1 33 rfl
  have k34 := hk.1 34 rfl
  have hls : ∀ o : Int32, lsF (R'.1 37) (owT R') o i = lsF (R.1 37) (owT R) o i := fun o => lsF_eq (fun j hj => ⟨(r1 j (by omega)).2.2, owT_k hk j⟩)
  have hvc : ∀ c' s' : Int32, vcF (R'.1 35) (R'.1 29) (R'.1 28) c' s' i = vcF (R.1 35) (R.1 29) (R.1 28) c' s' i := fun c' s' => vcF_eq (fun j hj => ⟨(r1 j (by omega)).1, by rw [k29], by rw [k28]⟩)
  refine ⟨fun o ho => ?_, fun c' s' hc' hs' => ?_, fun j hj => ?_, fun j h1 h2 => ?_⟩
  · obtain ⟨a1, a2, a3, a4, a5, a6, a7, a8⟩ := j1 o ho
    rw [d1, d2, d3, d4, d5]
    refine ⟨a1, a2, a3, a4, ?_, a6, a7, ?_⟩
    · obtain ⟨z, z1, z2, z3⟩ := a5
      exact ⟨z, z1, z2, by omega⟩
    · show _ = (if owT R' i = nI o ∧ 0 < R'.1 37 i then R'.1 37 i else lsF (R'.1 37) (owT R') (nI o) i)
      rw [if_neg (fun z => by have := z.2; rw [r4] at this; exact nlt00 this), hls]
      exact a8
  · show C.1 20 (40 * c' + s') = nI (vcF (R'.1 35) (R'.1 29) (R'.1 28) (nI c') (nI s') i + if ¬ R'.1 35 i = 0 ∧ R'.1 29 i = nI c' ∧ R'.1 28 i = nI s' then 1 else 0)
    rw [hvc, if_neg (fun z => z.1 r2), j2 c' s' hc' hs']
    rfl
  · by_cases ej : j = i
    · subst ej
      obtain ⟨b1, b2⟩ := j4 j (by omega) hi
      rw [b1, b2, r2, r3, r4, k33, k34, hcb]
      exact ⟨rfl, rfl, rfl, Or.inl rfl, ⟨0, rfl, by omega, by omega⟩⟩
    · obtain ⟨d1, d2, d3⟩ := r1 j ej
      rw [d1, d2, d3, k33, k34]
      exact j3 j (by omega)
  · exact j4 j (by omega) h2

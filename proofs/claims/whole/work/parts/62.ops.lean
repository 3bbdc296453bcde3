/-! the texts of rules: what both sides read. by_ : the bytes, z : how many -/
def bAt (by_ : Nat → Int32) (z p : Nat) : Int32 := if p < z then by_ p else -1
/-- the class, with no fault, at p, L tokens of code -/
def cAt (by_ : Nat → Int32) (z : Nat) (C : mm_M) (p L : Nat) : Prop := C.1 59 = by_ ∧ C.1 9 2 = nI z ∧ C.1 9 4 = nI p ∧ C.1 9 5 = -1 ∧ C.1 9 3 = nI L ∧ L ≤ p ∧ p ≤ z
def cBad (C : mm_M) (f : Nat) : Prop := C.1 9 5 = nI f ∧ ∃ l, l ≤ 80 ∧ C.1 9 3 = nI l
def cFr (C C' : mm_M) : Prop := (∀ a, a ≠ 9 → a ≠ 60 → C'.1 a = C.1 a) ∧ C'.1 9 2 = C.1 9 2
abbrev mm_o : Type := Nat ⊕ (Nat × List Int32)
def cOut (C C' : mm_M) (L : Nat) : mm_o → Prop
  | .inl f => cFr C C' ∧ cBad C' f
  | .inr q => cFr C C' ∧ C'.1 9 4 = nI q.1 ∧ C'.1 9 5 = -1 ∧ C'.1 9 3 = nI (L + q.2.length) ∧ (∀ k, k < L → C'.1 60 k = C.1 60 k) ∧ ∀ i, i < q.2.length → C'.1 60 (L + i) = q.2.getD i 0
/-- what an outcome from p on may be; e = 0: nothing read is allowed -/
def oOk (z p e : Nat) : mm_o → Prop
  | .inl f => p ≤ f ∧ f ≤ z
  | .inr q => p + e ≤ q.1 ∧ q.1 ≤ z ∧ q.2.length + p ≤ q.1
/-- the code c, then the rest -/
def oApp (c : List Int32) : mm_o → mm_o
  | .inl f => .inl f
  | .inr w => .inr (w.1, c ++ w.2)
theorem cFr_r (C : mm_M) : cFr C C := ⟨fun _ _ _ => rfl, rfl⟩
theorem cFr_t {A B C : mm_M} (h : cFr A B) (g : cFr B C) : cFr A C := ⟨fun a h1 h2 => (g.1 a h1 h2).trans (h.1 a h1 h2), g.2.trans h.2⟩
theorem cAt_next {by_ : Nat → Int32} {z p L : Nat} {C C' : mm_M} {q : Nat × List Int32} (h : cAt by_ z C p L) (ho : oOk z p 0 (.inr q)) (g : cOut C C' L (.inr q)) : cAt by_ z C' q.1 (L + q.2.length) := by
  obtain ⟨h1, h2, h3, h4, h5, h6, h7⟩ := h
  obtain ⟨g1, g2, g3, g4, g5, g6⟩ := g
  obtain ⟨o1, o2, o3⟩ := ho
  exact ⟨by rw [g1.1 59 (by omega) (by omega)]; exact h1, by rw [g1.2]; exact h2, g2, g3, g4, by omega, o2⟩
theorem gd_l {l l' : List Int32} {i : Nat} (h : i < l.length) : (l ++ l').getD i 0 = l.getD i 0 := by
  rw [List.getD_eq_getElem?_getD, List.getD_eq_getElem?_getD, List.getElem?_append_left h]
theorem gd_r {l l' : List Int32} {i : Nat} (h : l.length ≤ i) : (l ++ l').getD i 0 = l'.getD (i - l.length) 0 := by
  rw [List.getD_eq_getElem?_getD, List.getD_eq_getElem?_getD, List.getElem?_append_right h]
theorem cOut_app {C C1 C2 : mm_M} {L : Nat} {q : Nat × List Int32} {o : mm_o} (h : cOut C C1 L (.inr q)) (g : cOut C1 C2 (L + q.2.length) o) : cOut C C2 L (oApp q.2 o) := by
  obtain ⟨h1, h2, h3, h4, h5, h6⟩ := h
  cases o with
  | inl f =>
    obtain ⟨g1, g2⟩ := g
    exact ⟨cFr_t h1 g1, g2⟩
  | inr w =>
    obtain ⟨g1, g2, g3, g4, g5, g6⟩ := g
    refine ⟨cFr_t h1 g1, g2, g3, ?_, fun k hk => ?_, fun i hi => ?_⟩
    · rw [g4, List.length_append, Nat.add_assoc]
    · rw [g5 k (by omega), h5 k hk]
    · rw [List.length_append] at hi
      by_cases e : i < q.2.length
      · rw [g5 (L + i) (by omega), h6 i e, gd_l e]
      · have := g6 (i - q.2.length) (by omega)
        rw [show L + q.2.length + (i - q.2.length) = L + i by omega] at this
        rw [this, gd_r (by omega)]
/-- the first from p0 on, then the second from there -/
theorem oOk_app {z p e e' : Nat} {q : Nat × List Int32} {o : mm_o} (h : oOk z p e (.inr q)) (g : oOk z q.1 e' o) : oOk z p e (oApp q.2 o) := by
  obtain ⟨h1, h2, h3⟩ := h
  cases o with
  | inl f =>
    obtain ⟨g1, g2⟩ := g
    exact ⟨by omega, g2⟩
  | inr w =>
    obtain ⟨g1, g2, g3⟩ := g
    refine ⟨?_, g2, ?_⟩
    · show p + e ≤ w.1
      omega
    · show (q.2 ++ w.2).length + p ≤ w.1
      rw [List.length_append]
      omega
theorem lm1 : ((-1 : Int32) < 0) ↔ True := iff_of_true (by decide +kernel) trivial
theorem gm1 : (0 ≤ (-1 : Int32)) ↔ False := iff_of_false (by decide +kernel) id
theorem peek_ok {by_ : Nat → Int32} {z p L : Nat} {C : mm_M} (h : cAt by_ z C p L) (hz : z ≤ 80) : f_X8_peek C = some (bAt by_ z p, C) := by
  obtain ⟨h1, h2, h3, h4, h5, h6, h7⟩ := h
  unfold f_X8_peek bAt
  by_cases e : p < z
  · have e1 : ¬ z ≤ p := by omega
    have e2 : p < 80 := by omega
    simp (disch := omega) only [mI, let_, bi_, bv_, ckI, clI, nI_leI, nI_ltI, nI_eq, nI_add, add1, ad0, pk_mul, pk_sub, e0, e1, ge0, lt0, le0, gt0, lt1, l2_, l3, l4, l5, l6, l7, l8, l9, l10, l12, l13, l20, l26, l30, l40, l80, l99, l100, l240, l320, l999, l1000, l2000, a11, a01, z01, z00, bz0, bz1, s1, s2, l1, l2, upd_at, Nat.reduceEqDiff, reduceIte, h4, h3, h2, gm1, e, e1, e2, h1]
  · have e1 : z ≤ p := by omega
    simp (disch := omega) only [mI, let_, bi_, bv_, ckI, clI, nI_leI, nI_ltI, nI_eq, nI_add, add1, ad0, pk_mul, pk_sub, e0, e1, ge0, lt0, le0, gt0, lt1, l2_, l3, l4, l5, l6, l7, l8, l9, l10, l12, l13, l20, l26, l30, l40, l80, l99, l100, l240, l320, l999, l1000, l2000, a11, a01, z01, z00, bz0, bz1, s1, s2, l1, l2, upd_at, Nat.reduceEqDiff, reduceIte, h4, h3, h2, gm1, e, e1]
theorem peek_bad {f : Nat} {C : mm_M} (h : cBad C f) (hf : f ≤ 80) : f_X8_peek C = some (-1, C) := by
  unfold f_X8_peek mI
  rw [h.1, if_pos (nI_pos' (by omega))]
theorem fail_ok {by_ : Nat → Int32} {z p L : Nat} {C : mm_M} (h : cAt by_ z C p L) (hz : z ≤ 80) : ∃ C', f_X8_fail C = some C' ∧ cOut C C' L (.inl p) := by
  obtain ⟨h1, h2, h3, h4, h5, h6, h7⟩ := h
  unfold f_X8_fail mI
  rw [h4, if_neg (by decide +kernel), let_, h3]
  refine ⟨_, rfl, ⟨fun a a1 a2 => ?_, ?_⟩, ?_, L, by omega, ?_⟩
  · simp only [s1, s2, l1, l2, upd_at, Nat.reduceEqDiff, reduceIte, a1]
  · simp only [s1, s2, l1, l2, upd_at, Nat.reduceEqDiff, reduceIte]
  · simp only [s1, s2, l1, l2, upd_at, Nat.reduceEqDiff, reduceIte]
  · simp only [s1, s2, l1, l2, upd_at, Nat.reduceEqDiff, reduceIte]
    exact h5
theorem fail_bad {f : Nat} {C : mm_M} (h : cBad C f) (hf : f ≤ 80) : f_X8_fail C = some C := by
  unfold f_X8_fail mI
  rw [h.1, if_pos (nI_pos' (by omega))]
theorem put_bad {f : Nat} {C : mm_M} (t : Int32) (h : cBad C f) : ∃ C', f_X8_put t C = some C' ∧ cFr C C' ∧ cBad C' f := by
  obtain ⟨h1, l, h2, h3⟩ := h
  unfold f_X8_put
  by_cases e : 80 ≤ l
  · simp (disch := omega) only [mI, let_, bi_, bv_, ckI, clI, nI_leI, nI_ltI, nI_eq, nI_add, add1, ad0, pk_mul, pk_sub, e0, e1, ge0, lt0, le0, gt0, lt1, l2_, l3, l4, l5, l6, l7, l8, l9, l10, l12, l13, l20, l26, l30, l40, l80, l99, l100, l240, l320, l999, l1000, l2000, a11, a01, z01, z00, bz0, bz1, s1, s2, l1, l2, upd_at, Nat.reduceEqDiff, reduceIte, h3, e]
    exact ⟨C, rfl, cFr_r C, h1, l, h2, h3⟩
  · simp (disch := omega) only [mI, let_, bi_, bv_, ckI, clI, nI_leI, nI_ltI, nI_eq, nI_add, add1, ad0, pk_mul, pk_sub, e0, e1, ge0, lt0, le0, gt0, lt1, l2_, l3, l4, l5, l6, l7, l8, l9, l10, l12, l13, l20, l26, l30, l40, l80, l99, l100, l240, l320, l999, l1000, l2000, a11, a01, z01, z00, bz0, bz1, s1, s2, l1, l2, upd_at, Nat.reduceEqDiff, reduceIte, h3, e]
    refine ⟨_, rfl, ⟨fun a a1 a2 => ?_, ?_⟩, ?_, l + 1, by omega, ?_⟩
    · simp only [s1, s2, l1, l2, upd_at, Nat.reduceEqDiff, reduceIte, a1, a2]
    · simp only [s1, s2, l1, l2, upd_at, Nat.reduceEqDiff, reduceIte]
    · simp only [s1, s2, l1, l2, upd_at, Nat.reduceEqDiff, reduceIte]
      exact h1
    · simp only [s1, s2, l1, l2, upd_at, Nat.reduceEqDiff, reduceIte]
theorem put_ok {by_ : Nat → Int32} {z p L : Nat} {C : mm_M} (t : Int32) (h : cAt by_ z C p L) (hL : L < 80) : ∃ C', f_X8_put t C = some C' ∧ cOut C C' L (.inr (p, [t])) := by
  obtain ⟨h1, h2, h3, h4, h5, h6, h7⟩ := h
  unfold f_X8_put
  have e : ¬ 80 ≤ L := by omega
  simp (disch := omega) only [mI, let_, bi_, bv_, ckI, clI, nI_leI, nI_ltI, nI_eq, nI_add, add1, ad0, pk_mul, pk_sub, e0, e1, ge0, lt0, le0, gt0, lt1, l2_, l3, l4, l5, l6, l7, l8, l9, l10, l12, l13, l20, l26, l30, l40, l80, l99, l100, l240, l320, l999, l1000, l2000, a11, a01, z01, z00, bz0, bz1, s1, s2, l1, l2, upd_at, Nat.reduceEqDiff, reduceIte, h5, e]
  refine ⟨_, rfl, ⟨fun a a1 a2 => ?_, ?_⟩, ?_, ?_, ?_, fun k hk => ?_, fun i hi => ?_⟩
  · simp only [s1, s2, l1, l2, upd_at, Nat.reduceEqDiff, reduceIte, a1, a2]
  · simp only [s1, s2, l1, l2, upd_at, Nat.reduceEqDiff, reduceIte]
  · simp only [s1, s2, l1, l2, upd_at, Nat.reduceEqDiff, reduceIte]
    exact h3
  · simp only [s1, s2, l1, l2, upd_at, Nat.reduceEqDiff, reduceIte]
    exact h4
  · simp only [s1, s2, l1, l2, upd_at, Nat.reduceEqDiff, reduceIte]
    rfl
  · have : k ≠ L := by omega
    simp only [s1, s2, l1, l2, upd_at, Nat.reduceEqDiff, reduceIte, this]
  · obtain rfl : i = 0 := by simpa using hi
    simp only [s1, s2, l1, l2, upd_at, Nat.reduceEqDiff, reduceIte, Nat.add_zero]
    rfl
/-- one step on -/
theorem adv_ok {by_ : Nat → Int32} {z p L : Nat} {C : mm_M} (h : cAt by_ z C p L) (hp : p < z) : cOut C (sI C 9 4 (nI (p + 1))) L (.inr (p + 1, [])) := by
  obtain ⟨h1, h2, h3, h4, h5, h6, h7⟩ := h
  refine ⟨⟨fun a a1 a2 => ?_, ?_⟩, ?_, ?_, ?_, fun k hk => ?_, fun i hi => ?_⟩
  · simp only [s1, s2, l1, l2, upd_at, Nat.reduceEqDiff, reduceIte, a1]
  · simp only [s1, s2, l1, l2, upd_at, Nat.reduceEqDiff, reduceIte]
  · simp only [s1, s2, l1, l2, upd_at, Nat.reduceEqDiff, reduceIte]
  · simp only [s1, s2, l1, l2, upd_at, Nat.reduceEqDiff, reduceIte]
    exact h4
  · simp only [s1, s2, l1, l2, upd_at, Nat.reduceEqDiff, reduceIte]
    exact h5
  · simp only [s1, s2, l1, l2, upd_at, Nat.reduceEqDiff, reduceIte]
  · exact absurd hi (by show ¬ i < 0; omega)

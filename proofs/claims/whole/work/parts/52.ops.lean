/-! the draw: rounds -/
def oth (ins su : Nat → Int32) (i : Nat) : Nat := if ¬ ins i = 0 ∧ su i = 0 then 1 else 0
def otw (ins su : Nat → Int32) (g : Nat → Nat) (i : Nat) : Nat := if ¬ ins i = 0 ∧ su i = 0 then g i else 0
theorem z10 : (1 : Int32) = 0 ↔ False := iff_of_false n10 id
theorem pass_U (ins su : Nat → Int32) (g : Nat → Nat) (N A : Nat) : gsum (oth ins (psu ins su g N A 40)) 40 + gsum (chg ins su g N A) 40 = gsum (oth ins su) 40 := by
  rw [← gsum_add]
  refine gsum_eq (fun i hi => ?_)
  unfold oth psu chg
  by_cases a1 : ins i = 0 <;> by_cases a2 : su i = 0 <;> by_cases a3 : A ≤ N * g i <;> simp only [a1, a2, a3, hi, z10, not_true_eq_false, not_false_eq_true, true_and, and_true, false_and, and_false, reduceIte]
theorem pass_W (ins su : Nat → Int32) (g : Nat → Nat) (N A : Nat) : gsum (otw ins (psu ins su g N A 40) g) 40 + gsum (chw ins su g N A) 40 = gsum (otw ins su g) 40 := by
  rw [← gsum_add]
  refine gsum_eq (fun i hi => ?_)
  unfold otw psu chw
  by_cases a1 : ins i = 0 <;> by_cases a2 : su i = 0 <;> by_cases a3 : A ≤ N * g i <;> simp only [a1, a2, a3, hi, z10, not_true_eq_false, not_false_eq_true, true_and, and_true, false_and, and_false, reduceIte, Nat.zero_add, Nat.add_zero]
theorem pass_cw (ins su : Nat → Int32) (g : Nat → Nat) (N A : Nat) : A * gsum (chg ins su g N A) 40 ≤ N * gsum (chw ins su g N A) 40 := by
  rw [← gsum_mul, ← gsum_mul]
  refine gsum_le (fun i _ => ?_)
  unfold chg chw
  by_cases h : ¬ ins i = 0 ∧ su i = 0 ∧ A ≤ N * g i
  · rw [if_pos h, if_pos h]
    omega
  · rw [if_neg h, if_neg h]
    omega
theorem pass_no {ins su : Nat → Int32} {g : Nat → Nat} {N A : Nat} (h : gsum (chg ins su g N A) 40 = 0) : ∀ i, i < 40 → ¬ ins i = 0 → su i = 0 → N * g i < A := by
  intro i hi h1 h2
  have := gsum_0 h i hi
  unfold chg at this
  rcases Nat.lt_or_ge (N * g i) A with q | q
  · exact q
  · rw [if_pos ⟨h1, h2, q⟩] at this
    omega
theorem oth_le (ins su : Nat → Int32) : gsum (oth ins su) 40 ≤ 40 * 1 := gsum_bd (fun i _ => by unfold oth; split <;> omega)
theorem otw_le {ins su : Nat → Int32} {g : Nat → Nat} (hg : ∀ i, i < 40 → g i ≤ 20) : gsum (otw ins su g) 40 ≤ 40 * 20 := gsum_bd (fun i hi => by unfold otw; have := hg i hi; split <;> omega)
theorem oth_otw {ins su : Nat → Int32} {g : Nat → Nat} (hg : ∀ i, i < 40 → ¬ ins i = 0 → 1 ≤ g i) : gsum (oth ins su) 40 ≤ gsum (otw ins su g) 40 := by
  refine gsum_le (fun i hi => ?_)
  unfold oth otw
  by_cases h : ¬ ins i = 0 ∧ su i = 0
  · rw [if_pos h, if_pos h]
    exact hg i hi h.1
  · rw [if_neg h, if_neg h]
    omega
/-- fewer to draw than open: fewer than the rest become sure -/
theorem pass_A {ins su : Nat → Int32} {g : Nat → Nat} {N A : Nat} (hg : ∀ i, i < 40 → ¬ ins i = 0 → 1 ≤ g i) (hA : A = gsum (otw ins su g) 40) (h1 : 1 ≤ N) (h2 : N < gsum (oth ins su) 40) : gsum (chg ins su g N A) 40 < N := by
  have u := pass_U ins su g N A
  have w := pass_W ins su g N A
  have cw := pass_cw ins su g N A
  have ow := oth_otw (su := su) hg
  have ow2 := oth_otw (su := psu ins su g N A 40) hg
  rcases Nat.lt_or_ge (gsum (chg ins su g N A) 40) N with q | q
  · exact q
  · exfalso
    have a1 : A * N ≤ A * gsum (chg ins su g N A) 40 := Nat.mul_le_mul_left A q
    have a2 : N * A ≤ N * gsum (chw ins su g N A) 40 := by
      rw [Nat.mul_comm]
      omega
    have a3 : A ≤ gsum (chw ins su g N A) 40 := Nat.le_of_mul_le_mul_left a2 h1
    have a4 : gsum (chg ins su g N A) 40 = gsum (oth ins su) 40 := by omega
    have a5 : gsum (chw ins su g N A) 40 = A := by omega
    rw [a4, a5, Nat.mul_comm A] at cw
    have a6 := Nat.le_of_mul_le_mul_right cw (by omega)
    omega
/-- as many to draw as open, or more: as long as there is another one, one becomes sure -/
theorem pass_B {ins su : Nat → Int32} {g : Nat → Nat} {N A : Nat} (hA : A = gsum (otw ins su g) 40) (h1 : 1 ≤ gsum (oth ins su) 40) (h2 : gsum (oth ins su) 40 ≤ N) : gsum (chg ins su g N A) 40 ≠ 0 := by
  intro h
  have no := pass_no h
  have s1 : gsum (fun i => N * otw ins su g i + oth ins su i) 40 ≤ gsum (fun i => A * oth ins su i) 40 := by
    refine gsum_le (fun i hi => ?_)
    unfold oth otw
    by_cases e : ¬ ins i = 0 ∧ su i = 0
    · rw [if_pos e, if_pos e]
      have := no i hi e.1 e.2
      omega
    · rw [if_neg e, if_neg e]
      omega
  rw [gsum_add, gsum_mul, gsum_mul, ← hA] at s1
  have s2 : A * gsum (oth ins su) 40 ≤ A * N := Nat.mul_le_mul_left A h2
  rw [Nat.mul_comm A N] at s2
  omega
theorem gsum_cut {f : Nat → Nat} {n : Nat} : ∀ {m : Nat}, n ≤ m → (∀ i, n ≤ i → i < m → f i = 0) → gsum f m = gsum f n := by
  intro m
  induction m with
  | zero =>
    intro h _
    rw [Nat.le_zero.mp h]
  | succ m ih =>
    intro h1 h2
    by_cases e : n = m + 1
    · rw [e]
    · rw [gsum_s, h2 m (by omega) (by omega), ih (by omega) (fun i a b => h2 i a (by omega))]
      omega
/-- what stands when the rounds are done -/
def Drw (ins su : Nat → Int32) (g : Nat → Nat) (r q : Nat) : Prop := (∀ j, j < 40 → (ins j = 0 ∨ ins j = 1) ∧ (su j = 0 ∨ su j = 1) ∧ g j ≤ 20 ∧ (ins j = 0 → su j = 0) ∧ (¬ ins j = 0 → su j = 0 → r * g j < q)) ∧ r ≤ 40 ∧ q = gsum (otw ins su g) 40 ∧ (q = 0 ∨ 1 ≤ r)
def Dst (ins su : Nat → Int32) (g : Nat → Nat) : Prop := ∀ j, j < 40 → (ins j = 0 ∨ ins j = 1) ∧ (su j = 0 ∨ su j = 1) ∧ g j ≤ 20 ∧ (ins j = 0 → su j = 0) ∧ (¬ ins j = 0 → 1 ≤ g j)
theorem dst_pass {ins su : Nat → Int32} {g : Nat → Nat} (h : Dst ins su g) (N A : Nat) : Dst ins (psu ins su g N A 40) g := by
  intro j hj
  obtain ⟨h1, h2, h3, h4, h5⟩ := h j hj
  refine ⟨h1, ?_, h3, ?_, h5⟩
  · unfold psu
    split
    · exact Or.inr rfl
    · exact h2
  · intro h0
    unfold psu
    rw [if_neg (fun q => q.2.1 h0)]
    exact h4 h0
theorem dst_end {ins su : Nat → Int32} {g : Nat → Nat} {N A : Nat} (h : Dst ins su g) (hN : N ≤ 40) (hA : A = gsum (otw ins su g) 40) (h0 : gsum (chg ins su g N A) 40 = 0) (hq : A = 0 ∨ 1 ≤ N) : Drw ins su g N A := by
  refine ⟨fun j hj => ?_, hN, hA, hq⟩
  obtain ⟨h1, h2, h3, h4, h5⟩ := h j hj
  exact ⟨h1, h2, h3, h4, pass_no h0 j hj⟩
theorem dst_end0 {ins su : Nat → Int32} {g : Nat → Nat} {N A : Nat} (h : Dst ins su g) (hN : N ≤ 40) (hA : A = gsum (otw ins su g) 40) (h0 : gsum (oth ins su) 40 = 0) : Drw ins su g N A := by
  have hz : ∀ j, j < 40 → ¬ (¬ ins j = 0 ∧ su j = 0) := by
    intro j hj q
    have := gsum_0 h0 j hj
    unfold oth at this
    rw [if_pos q] at this
    omega
  refine ⟨fun j hj => ?_, hN, hA, Or.inl ?_⟩
  · obtain ⟨h1, h2, h3, h4, h5⟩ := h j hj
    exact ⟨h1, h2, h3, h4, fun q1 q2 => absurd ⟨q1, q2⟩ (hz j hj)⟩
  · rw [hA]
    exact gsum_z (fun i hi => if_neg (hz i hi))
theorem flg_0 {c : Nat} (h : c = 0) : flg c = 0 := if_pos h
theorem flg_1 {c : Nat} (h : c ≠ 0) : flg c = 1 := if_neg h
theorem kp6_pm (C : mm_M) (su : Nat → Int32) (r q : Int32) : kp6 C (pm6 C su r q) := by
  refine ⟨fun a h1 h2 h3 h4 => ?_, fun j h1 h2 => ?_⟩
  · rw [pm6_1, if_neg h1, if_neg h3]
  · rw [pm6_1, if_pos rfl, upd_at, if_neg h2, upd_at, if_neg h1]
/-- one pass of the class -/
theorem make6 {ins we su : Nat → Int32} {g : Nat → Nat} {C : mm_M} {r q : Nat} (hd : Dst ins su g) (hw : ∀ i, i < 40 → we i = nI (g i)) (h1 : C.1 52 = ins) (h2 : C.1 54 = we) (h3 : C.1 53 = su) (h4 : C.1 6 4 = nI r) (h5 : C.1 6 5 = nI q) (hr : r ≤ 40) (hq : q = gsum (otw ins su g) 40) (hc : gsum (chg ins su g r q) 40 ≤ r) : f_X2_makeSure_6 C = some (flg (gsum (chg ins su g r q) 40), pm6 C (psu ins su g r q 40) (nI (r - gsum (chg ins su g r q) 40)) (nI (q - gsum (chw ins su g r q) 40))) := by
  have w := pass_W ins su g r q
  have hq2 : q ≤ 800 := by rw [hq]; exact otw_le (fun i hi => (hd i hi).2.2.1)
  have k := pass_c6 (ins := ins) (we := we) (su := su) (g := g) (N := r) (A := q) (nI r) (nI q) (fun i hi => ⟨hw i hi, (hd i hi).2.2.1⟩) hr hq2 40 0 mm_fu C (by omega) (fuGt (by omega)) h1 h2 (by rw [psu_0]; exact h3) (by rw [h4]; exact (Int32.sub_zero _).symm) (by rw [h5]; exact (Int32.sub_zero _).symm)
  rw [pk_sub hc, pk_sub (by omega)] at k
  unfold f_X2_makeSure_6 mI
  rw [let_, let_, h4, h5]
  exact k

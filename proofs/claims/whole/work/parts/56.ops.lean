/-! the draw: points -/
def bel (v off st : Nat) : Nat := if v ≤ off then 0 else (v - off + st - 1) / st
theorem bel_P (v off : Nat) {st : Nat} (h : 0 < st) : v ≤ off + st * bel v off st ∧ (bel v off st = 0 ∨ off + st * bel v off st < v + st) := by
  unfold bel
  split
  · exact ⟨by omega, Or.inl rfl⟩
  · rename_i hv
    have d := Nat.div_add_mod (v - off + st - 1) st
    have m := Nat.mod_lt (v - off + st - 1) h
    generalize st * ((v - off + st - 1) / st) = z at d ⊢
    exact ⟨by omega, Or.inr (by omega)⟩
theorem bel_u {v off st k : Nat} (h : 0 < st) (h1 : v ≤ off + st * k) (h2 : k = 0 ∨ off + st * k < v + st) : bel v off st = k := by
  obtain ⟨b1, b2⟩ := bel_P v off h
  generalize bel v off st = b at *
  rcases Nat.lt_trichotomy b k with q | q | q
  · rcases h2 with z | z
    · omega
    · have : st * (b + 1) ≤ st * k := Nat.mul_le_mul_left st q
      rw [Nat.mul_succ] at this
      omega
  · exact q
  · rcases b2 with z | z
    · omega
    · have : st * (k + 1) ≤ st * b := Nat.mul_le_mul_left st q
      rw [Nat.mul_succ] at this
      omega
theorem bel_step (v off : Nat) {st x : Nat} (hx : x < st) : (v + x ≤ off + st * bel v off st ∧ bel (v + x) off st = bel v off st) ∨ (off + st * bel v off st < v + x ∧ bel (v + x) off st = bel v off st + 1) := by
  obtain ⟨b1, b2⟩ := bel_P v off (show 0 < st by omega)
  by_cases e : v + x ≤ off + st * bel v off st
  · refine Or.inl ⟨e, bel_u (by omega) e ?_⟩
    rcases b2 with z | z
    · exact Or.inl z
    · exact Or.inr (by omega)
  · refine Or.inr ⟨by omega, bel_u (by omega) ?_ (Or.inr ?_)⟩
    · rw [Nat.mul_succ]
      omega
    · rw [Nat.mul_succ]
      omega
theorem below_ok {v off st : Nat} (M : mm_M) (hv : v < 2 ^ 60) (ho : off < 2 ^ 60) (hs : st < 2 ^ 60) (h0 : 0 < st) : f_X12_below (lN v) (lN off) (lN st) M = some (lN (bel v off st), M) := by
  unfold f_X12_below bel
  by_cases e : v ≤ off
  · rw [if_pos e, if_neg (fun q => by have := (pk_lLT (by omega) (by omega)).mp ((lg_cmp_gt _ _).mp q); omega)]
    rfl
  · rw [if_neg e, if_pos ((lg_cmp_gt _ _).mpr ((pk_lLT (by omega) (by omega)).mpr (by omega))), nzl _ h0 (by omega), lN_sub (by omega), lN_add, show (1 : Int64) = lN 1 from rfl, lN_sub (by omega), pk_lDiv (by omega) h0 (by omega)]
/-- the end of the first s others' stretch; who is drawn -/
def dEnd (ins su : Nat → Int32) (g : Nat → Nat) (r s : Nat) : Nat := 1000 * (r * gsum (otw ins su g) s)
def dTk (ins su : Nat → Int32) (g : Nat → Nat) (r q u j : Nat) : Int32 := if su j = 0 then (if ¬ ins j = 0 ∧ bel (dEnd ins su g r j) (u * q) (1000 * q) < bel (dEnd ins su g r (j + 1)) (u * q) (1000 * q) then 1 else 0) else 1
theorem dEnd_n {ins su : Nat → Int32} {g : Nat → Nat} {r j : Nat} (h : ¬ (¬ ins j = 0 ∧ su j = 0)) : dEnd ins su g r (j + 1) = dEnd ins su g r j := by
  unfold dEnd
  rw [gsum_s]
  unfold otw
  rw [if_neg h]
  rfl
theorem dEnd_y {ins su : Nat → Int32} {g : Nat → Nat} {r j : Nat} (h : ¬ ins j = 0 ∧ su j = 0) : dEnd ins su g r (j + 1) = dEnd ins su g r j + 1000 * (r * g j) := by
  unfold dEnd
  rw [gsum_s, Nat.mul_add, Nat.mul_add]
  congr 2
  unfold otw
  rw [if_pos h]
theorem drw_q {ins su : Nat → Int32} {g : Nat → Nat} {r q : Nat} (hD : Drw ins su g r q) : q ≤ 800 := by
  rw [hD.2.2.1]
  exact otw_le (fun i hi => (hD.1 i hi).2.2.1)
theorem dEnd_le {ins su : Nat → Int32} {g : Nat → Nat} {r q : Nat} (hD : Drw ins su g r q) {s : Nat} (hs : s ≤ 40) : dEnd ins su g r s ≤ 1000 * (r * q) := by
  unfold dEnd
  rw [hD.2.2.1]
  exact Nat.mul_le_mul_left _ (Nat.mul_le_mul_left _ (gsum_mono _ hs))
theorem drw_rq {ins su : Nat → Int32} {g : Nat → Nat} {r q : Nat} (hD : Drw ins su g r q) : r * q ≤ 32000 := Nat.mul_le_mul hD.2.1 (drw_q hD)
/-- the class's next point is not too far -/
theorem dPt_le {ins su : Nat → Int32} {g : Nat → Nat} {r q u : Nat} (hD : Drw ins su g r q) (hu : u ≤ 999) {s : Nat} (hs : s ≤ 40) : u * q + 1000 * q * bel (dEnd ins su g r s) (u * q) (1000 * q) ≤ 40000000 := by
  have h1 := drw_q hD
  have h2 := drw_rq hD
  have h3 := dEnd_le hD hs
  have h4 : u * q ≤ 999 * 800 := Nat.mul_le_mul hu h1
  by_cases e : q = 0
  · subst e
    omega
  · obtain ⟨b1, b2⟩ := bel_P (dEnd ins su g r s) (u * q) (show 0 < 1000 * q by omega)
    rcases b2 with z | z
    · rw [z]
      omega
    · omega
theorem take6 {C : mm_M} {ins su we : Nat → Int32} {g : Nat → Nat} {r q u : Nat} (hD : Drw ins su g r q) (hw : ∀ i, i < 40 → we i = nI (g i)) (c1 : C.1 52 = ins) (c2 : C.1 54 = we) (c3 : C.1 53 = su) (c4 : C.1 6 4 = nI r) (c5 : C.1 6 5 = nI q) (hu : u ≤ 999) : ∃ C', f_X2_take_6 (nI u) C = some (nI (cnt (dTk ins su g r q u) 40), C') ∧ (∀ j, j < 40 → C'.1 51 j = dTk ins su g r q u j) ∧ (∀ j, 40 ≤ j → C'.1 51 j = C.1 51 j) ∧ C'.1 6 6 = nI (cnt (dTk ins su g r q u) 40) ∧ (∀ a, a ≠ 6 → a ≠ 51 → C'.1 a = C.1 a) ∧ ∀ j, j ≠ 6 → C'.1 6 j = C.1 6 j := by
  have hq := drw_q hD
  have hrq := drw_rq hD
  unfold f_X2_take_6 mI
  rw [let_, let_, c5, pk_mul]
  refine lpMf (fun n s M => f_X2_take_6_17 n (nI (u * q + 1000 * q * bel (dEnd ins su g r s) (u * q) (1000 * q))) (nI (dEnd ins su g r s)) (nI s) M) (fun s M => (∀ j, j < s → M.1 51 j = dTk ins su g r q u j) ∧ (∀ j, 40 ≤ j → M.1 51 j = C.1 51 j) ∧ M.1 6 6 = nI (cnt (dTk ins su g r q u) s) ∧ (∀ a, a ≠ 6 → a ≠ 51 → M.1 a = C.1 a) ∧ ∀ j, j ≠ 6 → M.1 6 j = C.1 6 j) (fun b => ∃ C', b = some (nI (cnt (dTk ins su g r q u) 40), C') ∧ (∀ j, j < 40 → C'.1 51 j = dTk ins su g r q u j) ∧ (∀ j, 40 ≤ j → C'.1 51 j = C.1 51 j) ∧ C'.1 6 6 = nI (cnt (dTk ins su g r q u) 40) ∧ (∀ a, a ≠ 6 → a ≠ 51 → C'.1 a = C.1 a) ∧ ∀ j, j ≠ 6 → C'.1 6 j = C.1 6 j) (c := 40) (sI C 6 6 0) (by omega) ⟨fun j hj => absurd hj (by omega), fun _ _ => by simp (disch := omega) only [mI, let_, bi_, bv_, ckI, clI, nI_leI, nI_ltI, nI_eq, nI_add, add1, ad0, pk_mul, pk_sub, e0, e1, ge0, lt0, le0, gt0, lt1, l2_, l3, l4, l5, l6, l7, l8, l9, l10, l12, l13, l20, l26, l30, l40, l80, l99, l100, l240, l320, l999, l1000, l2000, a11, a01, z01, z00, bz0, bz1, s1, s2, l1, l2, upd_at, Nat.reduceEqDiff, reduceIte], by simp (disch := omega) only [mI, let_, bi_, bv_, ckI, clI, nI_leI, nI_ltI, nI_eq, nI_add, add1, ad0, pk_mul, pk_sub, e0, e1, ge0, lt0, le0, gt0, lt1, l2_, l3, l4, l5, l6, l7, l8, l9, l10, l12, l13, l20, l26, l30, l40, l80, l99, l100, l240, l320, l999, l1000, l2000, a11, a01, z01, z00, bz0, bz1, s1, s2, l1, l2, upd_at, Nat.reduceEqDiff, reduceIte]; rfl, fun z z1 z2 => by simp (disch := omega) only [mI, let_, bi_, bv_, ckI, clI, nI_leI, nI_ltI, nI_eq, nI_add, add1, ad0, pk_mul, pk_sub, e0, e1, ge0, lt0, le0, gt0, lt1, l2_, l3, l4, l5, l6, l7, l8, l9, l10, l12, l13, l20, l26, l30, l40, l80, l99, l100, l240, l320, l999, l1000, l2000, a11, a01, z01, z00, bz0, bz1, s1, s2, l1, l2, upd_at, Nat.reduceEqDiff, reduceIte, z1], fun j j1 => by simp (disch := omega) only [mI, let_, bi_, bv_, ckI, clI, nI_leI, nI_ltI, nI_eq, nI_add, add1, ad0, pk_mul, pk_sub, e0, e1, ge0, lt0, le0, gt0, lt1, l2_, l3, l4, l5, l6, l7, l8, l9, l10, l12, l13, l20, l26, l30, l40, l80, l99, l100, l240, l320, l999, l1000, l2000, a11, a01, z01, z00, bz0, bz1, s1, s2, l1, l2, upd_at, Nat.reduceEqDiff, reduceIte, j1]⟩ ?_ ?_
  · intro s m M hs hI ih
    obtain ⟨i1, i2, i3, i4, i5⟩ := hI
    have q40 : ¬ 40 ≤ s := by omega
    have k52 : M.1 52 = ins := by rw [i4 52 (by omega) (by omega)]; exact c1
    have k54 : M.1 54 = we := by rw [i4 54 (by omega) (by omega)]; exact c2
    have k53 : M.1 53 = su := by rw [i4 53 (by omega) (by omega)]; exact c3
    have k4 : M.1 6 4 = nI r := by rw [i5 4 (by omega)]; exact c4
    have k5 : M.1 6 5 = nI q := by rw [i5 5 (by omega)]; exact c5
    obtain ⟨d1, d2, d3, d4, d5⟩ := hD.1 s hs
    have hb := bw1 d2
    -- what follows once taken[s] stands
    have fin : ∀ (M2 : mm_M) (p v : Int32) (x : Int32), M2.1 51 = upd (M.1 51) s (dTk ins su g r q u s) → (∀ a, a ≠ 51 → M2.1 a = M.1 a) → p = nI (u * q + 1000 * q * bel (dEnd ins su g r (s + 1)) (u * q) (1000 * q)) → v = nI (dEnd ins su g r (s + 1)) → ∃ C', f_X2_take_6_90 (f_X2_take_6_17 m) p v (nI s) M2 = some (nI (cnt (dTk ins su g r q u) 40), C') ∧ (∀ j, j < 40 → C'.1 51 j = dTk ins su g r q u j) ∧ (∀ j, 40 ≤ j → C'.1 51 j = C.1 51 j) ∧ C'.1 6 6 = nI (cnt (dTk ins su g r q u) 40) ∧ (∀ a, a ≠ 6 → a ≠ 51 → C'.1 a = C.1 a) ∧ ∀ j, j ≠ 6 → C'.1 6 j = C.1 6 j := by
      intro M2 p v x m1 m2 hp hv
      rw [hp, hv]
      unfold f_X2_take_6_90 f_X2_take_6_110
      have m6 : M2.1 6 = M.1 6 := m2 6 (by omega)
      have m51 : M2.1 51 s = dTk ins su g r q u s := by rw [m1]; exact if_pos rfl
      have rows : ∀ j, j < s + 1 → M2.1 51 j = dTk ins su g r q u j := by
        intro j hj
        rw [m1, upd_at]
        by_cases ej : j = s
        · rw [if_pos ej, ej]
        · rw [if_neg ej]
          exact i1 j (by omega)
      have rows2 : ∀ j, 40 ≤ j → M2.1 51 j = C.1 51 j := by
        intro j hj
        rw [m1, upd_at, if_neg (by omega)]
        exact i2 j hj
      by_cases e : dTk ins su g r q u s = 0
      · simp (disch := omega) only [mI, let_, bi_, bv_, ckI, clI, nI_leI, nI_ltI, nI_eq, nI_add, add1, ad0, pk_mul, pk_sub, e0, e1, ge0, lt0, le0, gt0, lt1, l2_, l3, l4, l5, l6, l7, l8, l9, l10, l12, l13, l20, l26, l30, l40, l80, l99, l100, l240, l320, l999, l1000, l2000, a11, a01, z01, z00, bz0, bz1, s1, s2, l1, l2, upd_at, Nat.reduceEqDiff, reduceIte, m51, e]
        refine ih M2 ⟨rows, rows2, ?_, fun z z1 z2 => by rw [m2 z z2]; exact i4 z z1 z2, fun j j1 => by rw [m6]; exact i5 j j1⟩
        rw [m6, i3, cnt_z e]
      · simp (disch := omega) only [mI, let_, bi_, bv_, ckI, clI, nI_leI, nI_ltI, nI_eq, nI_add, add1, ad0, pk_mul, pk_sub, e0, e1, ge0, lt0, le0, gt0, lt1, l2_, l3, l4, l5, l6, l7, l8, l9, l10, l12, l13, l20, l26, l30, l40, l80, l99, l100, l240, l320, l999, l1000, l2000, a11, a01, z01, z00, bz0, bz1, s1, s2, l1, l2, upd_at, Nat.reduceEqDiff, reduceIte, m51, e, m6, i3]
        refine ih _ ⟨fun j hj => ?_, fun j hj => ?_, ?_, fun z z1 z2 => ?_, fun j j1 => ?_⟩
        · simp (disch := omega) only [mI, let_, bi_, bv_, ckI, clI, nI_leI, nI_ltI, nI_eq, nI_add, add1, ad0, pk_mul, pk_sub, e0, e1, ge0, lt0, le0, gt0, lt1, l2_, l3, l4, l5, l6, l7, l8, l9, l10, l12, l13, l20, l26, l30, l40, l80, l99, l100, l240, l320, l999, l1000, l2000, a11, a01, z01, z00, bz0, bz1, s1, s2, l1, l2, upd_at, Nat.reduceEqDiff, reduceIte]
          exact rows j hj
        · simp (disch := omega) only [mI, let_, bi_, bv_, ckI, clI, nI_leI, nI_ltI, nI_eq, nI_add, add1, ad0, pk_mul, pk_sub, e0, e1, ge0, lt0, le0, gt0, lt1, l2_, l3, l4, l5, l6, l7, l8, l9, l10, l12, l13, l20, l26, l30, l40, l80, l99, l100, l240, l320, l999, l1000, l2000, a11, a01, z01, z00, bz0, bz1, s1, s2, l1, l2, upd_at, Nat.reduceEqDiff, reduceIte]
          exact rows2 j hj
        · simp (disch := omega) only [mI, let_, bi_, bv_, ckI, clI, nI_leI, nI_ltI, nI_eq, nI_add, add1, ad0, pk_mul, pk_sub, e0, e1, ge0, lt0, le0, gt0, lt1, l2_, l3, l4, l5, l6, l7, l8, l9, l10, l12, l13, l20, l26, l30, l40, l80, l99, l100, l240, l320, l999, l1000, l2000, a11, a01, z01, z00, bz0, bz1, s1, s2, l1, l2, upd_at, Nat.reduceEqDiff, reduceIte]
          rw [cnt_nz e]
        · simp (disch := omega) only [mI, let_, bi_, bv_, ckI, clI, nI_leI, nI_ltI, nI_eq, nI_add, add1, ad0, pk_mul, pk_sub, e0, e1, ge0, lt0, le0, gt0, lt1, l2_, l3, l4, l5, l6, l7, l8, l9, l10, l12, l13, l20, l26, l30, l40, l80, l99, l100, l240, l320, l999, l1000, l2000, a11, a01, z01, z00, bz0, bz1, s1, s2, l1, l2, upd_at, Nat.reduceEqDiff, reduceIte, z1]
          rw [m2 z z2]
          exact i4 z z1 z2
        · simp (disch := omega) only [mI, let_, bi_, bv_, ckI, clI, nI_leI, nI_ltI, nI_eq, nI_add, add1, ad0, pk_mul, pk_sub, e0, e1, ge0, lt0, le0, gt0, lt1, l2_, l3, l4, l5, l6, l7, l8, l9, l10, l12, l13, l20, l26, l30, l40, l80, l99, l100, l240, l320, l999, l1000, l2000, a11, a01, z01, z00, bz0, bz1, s1, s2, l1, l2, upd_at, Nat.reduceEqDiff, reduceIte, j1]
          rw [m6]
          exact i5 j j1
    show ∃ C', f_X2_take_6_17 (m + 1) (nI (u * q + 1000 * q * bel (dEnd ins su g r s) (u * q) (1000 * q))) (nI (dEnd ins su g r s)) (nI s) M = some (nI (cnt (dTk ins su g r q u) 40), C') ∧ _
    unfold f_X2_take_6_17
    rw [if_neg (show ¬ (40 : Int32) ≤ nI s from nI_ge (b := 40) (by omega) (by decide)), ckI hs (by omega), ckI hs (by omega), let_, clI (by omega), other6 hs, bi_]
    simp only [s1, s2, l1, l2, upd_at, Nat.reduceEqDiff, reduceIte, k52, k53, mI, hb]
    by_cases eo : ¬ ins s = 0 ∧ su s = 0
    · have hx := d5 eo.1 eo.2
      have hx2 : r * g s < q := hx
      have k := bel_step (dEnd ins su g r s) (u * q) (show 1000 * (r * g s) < 1000 * q by omega)
      rw [← dEnd_y eo] at k
      have l1' := dEnd_le hD (show s + 1 ≤ 40 by omega)
      have l2' := dPt_le hD hu (show s ≤ 40 by omega)
      rw [if_pos eo, if_neg n10, ckI hs (by omega), let_, k4, k54, hw s hs, l1000, pk_mul, pk_mul, nI_add, Nat.mul_assoc, ← dEnd_y eo]
      rcases k with ⟨ka, kb⟩ | ⟨ka, kb⟩
      · have t0 : dTk ins su g r q u s = 0 := by
          unfold dTk
          rw [if_pos eo.2, if_neg (by omega)]
        rw [if_pos (nI_le ka (by omega))]
        refine fin _ _ _ 0 ?_ (fun z z1 => ?_) ?_ rfl
        · simp only [s1, s2, l1, l2, upd_at, Nat.reduceEqDiff, reduceIte, t0, eo.2]
        · simp only [s1, s2, l1, l2, upd_at, Nat.reduceEqDiff, reduceIte, z1]
        · rw [kb]
      · have t1 : dTk ins su g r q u s = 1 := by
          unfold dTk
          rw [if_pos eo.2, if_pos ⟨eo.1, by omega⟩]
        rw [if_neg (nI_ge ka (by omega)), ckI hs (by omega), let_, let_]
        simp only [s1, s2, l1, l2, upd_at, Nat.reduceEqDiff, reduceIte, k5, pk_mul, nI_add, clI (show s < 2 ^ 31 by omega)]
        refine fin _ _ _ 0 ?_ (fun z z1 => ?_) ?_ rfl
        · simp only [s1, s2, l1, l2, upd_at, Nat.reduceEqDiff, reduceIte, t1, a11]
          funext j
          unfold upd
          split <;> rfl
        · simp only [s1, s2, l1, l2, upd_at, Nat.reduceEqDiff, reduceIte, z1]
        · rw [kb, Nat.mul_add, Nat.mul_one, Nat.add_assoc]
    · rw [if_neg eo, if_pos rfl]
      have t0 : dTk ins su g r q u s = su s := by
        unfold dTk
        rcases d2 with z | z
        · rw [if_pos z, if_neg (fun y => eo ⟨y.1, z⟩), z]
        · rw [z, if_neg n10]
      refine fin _ _ _ 0 ?_ (fun z z1 => ?_) ?_ ?_
      · simp only [s1, s2, l1, l2, upd_at, Nat.reduceEqDiff, reduceIte, t0]
      · simp only [s1, s2, l1, l2, upd_at, Nat.reduceEqDiff, reduceIte, z1]
      · rw [dEnd_n eo]
      · rw [dEnd_n eo]
  · intro m M hI
    show ∃ C', f_X2_take_6_17 (m + 1) _ _ (nI 40) M = some (nI (cnt (dTk ins su g r q u) 40), C') ∧ _
    unfold f_X2_take_6_17 mI
    rw [if_pos (show (40 : Int32) ≤ nI 40 by decide +kernel), hI.2.2.1]
    exact ⟨M, rfl, hI⟩

/-! tables -/
def TB (t : Nat) (C R : mm_M) : Prop := C.1 4 7 = nI t ∧ R.1 0 43 = nI t ∧ t ≤ 100 ∧ (∀ j, j < t → C.1 17 j = R.1 36 j) ∧ C.1 39 = R.1 28 ∧ C.1 41 = R.1 30 ∧ C.1 43 = R.1 32 ∧ ∀ j, j < t → rng (R.1 32 j) 0 7
theorem first_l {C R : mm_M} {t : Nat} (h : TB t C R) (s x sd : Int32) (K : Int32 → Int32 → mm_M → Option mm_M) : ∀ (m i nC nR : Nat), i + m = t → m < nC → m < nR → (f_X10_firstGood_2 nC s x (nI i) C = some (-1, C) ∧ f_X12_countIn_3 K nR s sd x (nI i) R = some R) ∨ ∃ j, j < t ∧ f_X10_firstGood_2 nC s x (nI i) C = some (nI j, C) ∧ f_X12_countIn_3 K nR s sd x (nI i) R = K sd (nI j) R := by
  obtain ⟨h1, h2, h3, h4, h5, h6, h7, h8⟩ := h
  intro m
  induction m with
  | zero =>
    intro i nC nR hi hc hr
    obtain ⟨nC, rfl⟩ : ∃ q, nC = q + 1 := ⟨nC - 1, by omega⟩
    obtain ⟨nR, rfl⟩ : ∃ q, nR = q + 1 := ⟨nR - 1, by omega⟩
    obtain rfl : i = t := by omega
    refine Or.inl ⟨?_, ?_⟩
    · unfold f_X10_firstGood_2 mI
      rw [h1, if_pos (nI_le (by omega) (by omega))]
    · unfold f_X12_countIn_3 mI
      rw [h2, if_pos (nI_le (by omega) (by omega))]
  | succ m ih =>
    intro i nC nR hi hc hr
    obtain ⟨nC, rfl⟩ : ∃ q, nC = q + 1 := ⟨nC - 1, by omega⟩
    obtain ⟨nR, rfl⟩ : ∃ q, nR = q + 1 := ⟨nR - 1, by omega⟩
    have k := ih (i + 1) nC nR (by omega) (by omega) (by omega)
    unfold f_X10_firstGood_2 f_X10_firstGood_50 f_X12_countIn_3 f_X12_countIn_75 mI
    simp only [h1, h2, if_neg (nI_ge (show i < t by omega) (show t < 2 ^ 31 by omega)), ckI (show i < 100 by omega) (show 100 ≤ 100000 by omega), clI (show i < 2 ^ 31 by omega), h4 i (by omega), h5, h6, add1]
    by_cases z1 : R.1 36 i = 0
    · simp only [if_pos z1]
      exact k
    · simp only [if_neg z1]
      by_cases z2 : R.1 28 i = s
      · simp only [if_pos z2]
        by_cases z3 : R.1 30 i < x
        · simp only [if_pos z3]
          exact k
        · simp only [if_neg z3]
          exact Or.inr ⟨i, by omega, rfl, rfl⟩
      · simp only [if_neg z2]
        exact k
theorem enter_ok {C R : mm_M} {t n1 f1 n2 f2 g : Nat} (h : TB t C R) (s x : Int32) (hC : tabC C n1 f1 n2 f2) (hR : tabR R n1 f1 n2 f2) (hf1 : f1 ≤ n1) (hf2 : f2 ≤ n2) (hg : g ≤ 1) {sd : Int32} (hsd : sd = if g = 0 then 2 else 0) : ∃ C' R' n1' f1' n2' f2', f_X11_enter s (nI g) x C = some C' ∧ f_X12_countIn s sd x R = some R' ∧ tabC C' n1' f1' n2' f2' ∧ tabR R' n1' f1' n2' f2' ∧ f1' ≤ n1' ∧ f2' ≤ n2' ∧ n1' + n2' ≤ n1 + n2 + 1 ∧ (∀ a, a ≠ 11 → C'.1 a = C.1 a) ∧ ∀ a, a ≠ 48 → R'.1 a = R.1 a := by
  obtain ⟨t1, t2, t3, t4⟩ := hC
  obtain ⟨r1, r2, r3, r4⟩ := hR
  have h' := h
  obtain ⟨h1, h2, h3, h4, h5, h6, h7, h8⟩ := h'
  unfold f_X11_enter f_X10_firstGood f_X12_countIn
  rcases first_l h s x sd f_X12_countIn_44 t 0 mm_fu mm_fu (by omega) (fuGt (by omega)) (fuGt (by omega)) with ⟨a1, a2⟩ | ⟨j, hj, a1, a2⟩
  · rw [show f_X10_firstGood_2 mm_fu s x 0 C = _ from a1, show f_X12_countIn_3 f_X12_countIn_44 mm_fu s sd x 0 R = _ from a2, bi_, if_pos m1lt]
    exact ⟨C, R, n1, f1, n2, f2, rfl, rfl, ⟨t1, t2, t3, t4⟩, ⟨r1, r2, r3, r4⟩, hf1, hf2, by omega, fun _ _ => rfl, fun _ _ => rfl⟩
  · rw [show f_X10_firstGood_2 mm_fu s x 0 C = _ from a1, show f_X12_countIn_3 f_X12_countIn_44 mm_fu s sd x 0 R = _ from a2, bi_, if_neg (nI_pos (by omega))]
    obtain ⟨b, b1, b2, b3⟩ := h8 j hj
    have hs := sold_c h1 h3 hj (b := b) (by rw [h7]; exact b1)
    rw [hs, bi_]
    have hput : ∀ v : Nat, v ≤ 1 → (nI b / 4 = nI v) → ∃ C' R' n1' f1' n2' f2', f_X7_put_9 (nI g) (nI v) C = some C' ∧ f_X12_countIn_44 sd (nI j) R = some R' ∧ tabC C' n1' f1' n2' f2' ∧ tabR R' n1' f1' n2' f2' ∧ f1' ≤ n1' ∧ f2' ≤ n2' ∧ n1' + n2' ≤ n1 + n2 + 1 ∧ (∀ a, a ≠ 11 → C'.1 a = C.1 a) ∧ ∀ a, a ≠ 48 → R'.1 a = R.1 a := by
      intro v hv hbv
      unfold f_X7_put_9 f_X12_countIn_44
      rcases (show g = 0 ∨ g = 1 by omega) with rfl | rfl
      · rw [if_pos rfl] at hsd
        subst hsd
        rw [if_pos (show nI 0 = 0 from rfl)]
        have e3 : (2 : Int32) + 1 = 3 := rfl
        rw [e3]
        simp (disch := omega) only [mI, let_, k4_2, k4_3, kc_2, kc_3, ckI, clI, s1, s2, l1, l2, upd_at, Nat.reduceEqDiff, reduceIte, t1, t2, t3, t4, r1, r2, r3, r4, add1, b1, hbv, nI_add]
        refine ⟨_, _, n1, f1, n2 + 1, f2 + v, rfl, rfl, ⟨?_, ?_, ?_, ?_⟩, ⟨?_, ?_, ?_, ?_⟩, hf1, by omega, by omega, fun a ha => ?_, fun a ha => ?_⟩
        · simp only [s1, s2, l1, l2, upd_at, Nat.reduceEqDiff, reduceIte]; exact t1
        · simp only [s1, s2, l1, l2, upd_at, Nat.reduceEqDiff, reduceIte]; exact t2
        · simp only [s1, s2, l1, l2, upd_at, Nat.reduceEqDiff, reduceIte]
        · simp only [s1, s2, l1, l2, upd_at, Nat.reduceEqDiff, reduceIte]
        · simp only [s1, s2, l1, l2, upd_at, Nat.reduceEqDiff, reduceIte]; exact r1
        · simp only [s1, s2, l1, l2, upd_at, Nat.reduceEqDiff, reduceIte]; exact r2
        · simp only [s1, s2, l1, l2, upd_at, Nat.reduceEqDiff, reduceIte]
        · simp only [s1, s2, l1, l2, upd_at, Nat.reduceEqDiff, reduceIte]
        · simp only [s1, s2, l1, l2, upd_at, Nat.reduceEqDiff, reduceIte, ha]
        · simp only [s1, s2, l1, l2, upd_at, Nat.reduceEqDiff, reduceIte, ha]
      · rw [if_neg (by omega)] at hsd
        subst hsd
        rw [if_neg (show ¬ nI 1 = 0 from n10)]
        have e3 : (0 : Int32) + 1 = 1 := rfl
        rw [e3]
        simp (disch := omega) only [mI, let_, k4_0, k4_1, kc_0, kc_1, ckI, clI, s1, s2, l1, l2, upd_at, Nat.reduceEqDiff, reduceIte, t1, t2, t3, t4, r1, r2, r3, r4, add1, b1, hbv, nI_add]
        refine ⟨_, _, n1 + 1, f1 + v, n2, f2, rfl, rfl, ⟨?_, ?_, ?_, ?_⟩, ⟨?_, ?_, ?_, ?_⟩, by omega, hf2, by omega, fun a ha => ?_, fun a ha => ?_⟩
        · simp only [s1, s2, l1, l2, upd_at, Nat.reduceEqDiff, reduceIte]
        · simp only [s1, s2, l1, l2, upd_at, Nat.reduceEqDiff, reduceIte]
        · simp only [s1, s2, l1, l2, upd_at, Nat.reduceEqDiff, reduceIte]; exact t3
        · simp only [s1, s2, l1, l2, upd_at, Nat.reduceEqDiff, reduceIte]; exact t4
        · simp only [s1, s2, l1, l2, upd_at, Nat.reduceEqDiff, reduceIte]
        · simp only [s1, s2, l1, l2, upd_at, Nat.reduceEqDiff, reduceIte]
        · simp only [s1, s2, l1, l2, upd_at, Nat.reduceEqDiff, reduceIte]; exact r3
        · simp only [s1, s2, l1, l2, upd_at, Nat.reduceEqDiff, reduceIte]; exact r4
        · simp only [s1, s2, l1, l2, upd_at, Nat.reduceEqDiff, reduceIte, ha]
        · simp only [s1, s2, l1, l2, upd_at, Nat.reduceEqDiff, reduceIte, ha]
    unfold f_X7_put
    rcases bit4 b3 with ⟨u1, u2⟩ | ⟨u1, u2⟩
    · obtain ⟨C', R', n1', f1', n2', f2', y1, y2, y3⟩ := hput 0 (by omega) u2
      rw [if_pos u1, if_pos rfl, show f_X7_put_9 (nI g) 0 C = _ from y1, bv_]
      exact ⟨C', R', n1', f1', n2', f2', rfl, y2, y3⟩
    · obtain ⟨C', R', n1', f1', n2', f2', y1, y2, y3⟩ := hput 1 (by omega) u2
      rw [if_neg u1, if_neg n10, show f_X7_put_9 (nI g) 1 C = _ from y1, bv_]
      exact ⟨C', R', n1', f1', n2', f2', rfl, y2, y3⟩
def endsL (X Y : Option (Int64 × mm_M)) : Prop := ∃ r C1 R1, X = some (r, C1) ∧ Y = some (r, R1) ∧ Rel C1 R1
theorem endsL_ref {X Y : Option (Int32 × mm_M)} (h : ends X Y) : endsL (mm_bi X (fun r M => some (r.toInt64, M))) (mm_bi Y (fun r M => some (r.toInt64, M))) := by
  obtain ⟨r, C1, R1, h1, h2, h3⟩ := h
  rw [h1, h2, bi_, bi_]
  exact ⟨_, C1, R1, rfl, rfl, h3⟩
theorem biL_id (X : Option (Int64 × mm_M)) : mm_bi X (fun r M => some (r, M)) = X := by
  cases X with
  | none => rfl
  | some q => rfl
/-- the reference's empty table -/
theorem noTab {R : mm_M} : ∃ R', f_X12_noTable_10 mm_fu (nI 0) R = some R' ∧ tabR R' 0 0 0 0 ∧ ∀ a, a ≠ 48 → R'.1 a = R.1 a := by
  have key : ∃ R', f_X12_noTable_10 mm_fu (nI 0) R = some R' ∧ (∀ j, j < 4 → R'.1 48 j = nI 0) ∧ ∀ a, a ≠ 48 → R'.1 a = R.1 a := by
    refine lpMf (fun n s X => f_X12_noTable_10 n (nI s) X) (fun s X => (∀ j, j < s → X.1 48 j = nI 0) ∧ ∀ a, a ≠ 48 → X.1 a = R.1 a) (fun b => ∃ M', b = some M' ∧ (∀ j, j < 4 → M'.1 48 j = nI 0) ∧ ∀ a, a ≠ 48 → M'.1 a = R.1 a) (c := 4) R (by omega) ⟨fun j hj => absurd hj (by omega), fun _ _ => rfl⟩ ?_ ?_
    · intro s m X hs hI ih
      show ∃ M', f_X12_noTable_10 (m + 1) (nI s) X = some M' ∧ _
      unfold f_X12_noTable_10
      rw [if_neg (show ¬ (4 : Int32) ≤ nI s from nI_ge (b := 4) hs (by omega))]
      simp (disch := omega) only [mI, let_, bi_, bv_, ckI, clI, s1, s2, l1, l2, upd_at, Nat.reduceEqDiff, reduceIte, add1, ax13, ax_2, ax_3, ax_4, ax_5, ax_6, ax_7, ax_8, ax_9, ax_10, ax_11, ax_12]
      refine ih _ ⟨fun j hj => ?_, fun a ha => ?_⟩
      · simp (disch := omega) only [mI, let_, bi_, bv_, ckI, clI, s1, s2, l1, l2, upd_at, Nat.reduceEqDiff, reduceIte, add1, ax13, ax_2, ax_3, ax_4, ax_5, ax_6, ax_7, ax_8, ax_9, ax_10, ax_11, ax_12]
        by_cases e : j = s
        · rw [if_pos e]
          rfl
        · rw [if_neg e]
          exact hI.1 j (by omega)
      · simp (disch := omega) only [mI, let_, bi_, bv_, ckI, clI, s1, s2, l1, l2, upd_at, Nat.reduceEqDiff, reduceIte, add1, ax13, ax_2, ax_3, ax_4, ax_5, ax_6, ax_7, ax_8, ax_9, ax_10, ax_11, ax_12, ha]
        exact hI.2 a ha
    · intro m X hI
      show ∃ M', f_X12_noTable_10 (m + 1) (nI 4) X = some M' ∧ _
      unfold f_X12_noTable_10
      rw [if_pos (show (4 : Int32) ≤ nI 4 by decide +kernel)]
      exact ⟨X, rfl, hI⟩
  obtain ⟨R', g1, g2, g3⟩ := key
  exact ⟨R', g1, ⟨g2 0 (by omega), g2 1 (by omega), g2 2 (by omega), g2 3 (by omega)⟩, g3⟩
/-- weighed, with empty tables -/
theorem table0 {C R : mm_M} (h : Rel C R) : ∃ C' R' n t, (mm_bv (f_X10_weigh (mI C 0 16) (mI C 4 7) C) (fun M => f_X7_clear M)) = some C' ∧ f_X12_noTable R = some R' ∧ kC C C' ∧ kR R R' ∧ TB t C' R' ∧ tabC C' 0 0 0 0 ∧ tabR R' 0 0 0 0 ∧ C'.1 2 8 = nI n ∧ R'.1 0 2 = nI n ∧ n ≤ 40 ∧ C'.1 51 = R'.1 15 ∧ C'.1 16 = R'.1 47 ∧ C'.1 27 = R'.1 2 ∧ i01 (R'.1 47) := by
  have h' := h
  obtain ⟨⟨⟨bd, bn, bt, bu, bv, bw, bl⟩, ⟨sa, sb, sc, sd, se, sf, sg, sh⟩, ⟨ka, kb, kc, kd, ke⟩, ⟨ta, tb, tc, td, te, tf, tg⟩, ⟨ra, rb, rc, rd, re_, rf⟩, ⟨qa, qb, qc, qd, qe⟩⟩, hr, hl, hw, d, n, t, u, v, w, ⟨⟨⟨id1, id2⟩, ⟨in1, in2⟩, ⟨it1, it2⟩, ⟨iu1, iu2⟩, ⟨iv1, iv2⟩, ⟨iw1, iw2⟩, ilv⟩, jS, jK, jT, jR, jC, jB, jM, jD, jL⟩, hrule, hhome⟩ := h'
  obtain ⟨C1, R1, g1, g2, g3, g4, g5, g6, _, _⟩ := weigh_two h (R.1 0 1) in1 in2 it1 it2 (Nat.le_refl t)
  obtain ⟨R2, e1', e2', e3'⟩ := noTab (R := R1)
  have kR2 : kR R1 R2 := ⟨fun a ha => e3' a (neR ha rfl), fun j hj => by rw [e3' 0 (by omega)]⟩
  have kR' := kR_t g4 kR2
  have kC2 : kC C1 (sI (sI (sI (sI C1 11 1 0) 11 2 0) 11 3 0) 11 4 0) := kC_t (kC_sI _ 11 _ _ rfl) (kC_t (kC_sI _ 11 _ _ rfl) (kC_t (kC_sI _ 11 _ _ rfl) (kC_sI _ 11 _ _ rfl)))
  have kC' := kC_t g3 kC2
  refine ⟨_, R2, n, t, ?_, ?_, kC', kR', ⟨by rw [kC' 4 rfl]; exact bt.trans it1, by rw [kR'.2 43 rfl]; exact it1, it2, fun j hj => ?_, by rw [kC' 39 rfl, kR'.1 28 rfl]; exact ta, by rw [kC' 41 rfl, kR'.1 30 rfl]; exact tc, by rw [kC' 43 rfl, kR'.1 32 rfl]; exact te, fun j hj => by rw [kR'.1 32 rfl]; exact (jT.1 j hj).choose_spec.choose_spec.choose_spec.2.2.2.2.2.2.2.2.2.1⟩, ⟨?_, ?_, ?_, ?_⟩, e2', by rw [kC' 2 rfl]; exact bn.trans in1, by rw [kR'.2 2 rfl]; exact in1, in2, by rw [kC' 51 rfl, kR'.1 15 rfl]; exact rf, by rw [kC' 16 rfl, kR'.1 47 rfl]; exact re_, by rw [kC' 27 rfl, kR'.1 2 rfl]; exact sb, by rw [kR'.1 47 rfl]; exact jL⟩
  · unfold mI
    rw [bd, bt.trans it1, g1, bv_]
    unfold f_X7_clear
    rw [let_, let_, let_, let_]
  · unfold f_X12_noTable mI
    rw [g2, bv_]
    exact e1'
  · simp only [s1, s2, l1, l2, upd_at, Nat.reduceEqDiff, reduceIte]
    rw [e3' 36 (by omega)]
    exact (g5 j hj).1
  · simp only [s1, s2, l1, l2, upd_at, Nat.reduceEqDiff, reduceIte]; rfl
  · simp only [s1, s2, l1, l2, upd_at, Nat.reduceEqDiff, reduceIte]; rfl
  · simp only [s1, s2, l1, l2, upd_at, Nat.reduceEqDiff, reduceIte]; rfl
  · simp only [s1, s2, l1, l2, upd_at, Nat.reduceEqDiff, reduceIte]; rfl
/-- the loops over the shops end in the same table -/
def tabI (t n i : Nat) (C0 R0 C R : mm_M) : Prop := (∀ a, a ≠ 11 → C.1 a = C0.1 a) ∧ (∀ a, a ≠ 48 → R.1 a = R0.1 a) ∧ ∃ n1 f1 n2 f2, tabC C n1 f1 n2 f2 ∧ tabR R n1 f1 n2 f2 ∧ f1 ≤ n1 ∧ f2 ≤ n2 ∧ n1 + n2 ≤ i
theorem TB_k {t : Nat} {C0 R0 C R : mm_M} (h : TB t C0 R0) (hc : ∀ a, a ≠ 11 → C.1 a = C0.1 a) (hr : ∀ a, a ≠ 48 → R.1 a = R0.1 a) : TB t C R := by
  unfold TB at *
  rw [hc 4 (by omega), hc 17 (by omega), hc 39 (by omega), hc 41 (by omega), hc 43 (by omega), hr 0 (by omega), hr 36 (by omega), hr 28 (by omega), hr 30 (by omega), hr 32 (by omega)]
  exact h
theorem tab_enter {t n i g : Nat} {C0 R0 C R : mm_M} (hT : TB t C0 R0) (h : tabI t n i C0 R0 C R) (s x : Int32) (hg : g ≤ 1) {sd : Int32} (hsd : sd = if g = 0 then 2 else 0) : ∃ C' R', f_X11_enter s (nI g) x C = some C' ∧ f_X12_countIn s sd x R = some R' ∧ tabI t n (i + 1) C0 R0 C' R' := by
  obtain ⟨h1, h2, n1, f1, n2, f2, t1, t2, t3, t4, t5⟩ := h
  obtain ⟨C', R', n1', f1', n2', f2', y1, y2, y3, y4, y5, y6, y7, y8, y9⟩ := enter_ok (TB_k hT h1 h2) s x t1 t2 t3 t4 hg hsd
  exact ⟨C', R', y1, y2, fun a ha => (y8 a ha).trans (h1 a ha), fun a ha => (y9 a ha).trans (h2 a ha), n1', f1', n2', f2', y3, y4, y5, y6, by omega⟩
theorem tab_up {t n i : Nat} {C0 R0 C R : mm_M} (h : tabI t n i C0 R0 C R) : tabI t n (i + 1) C0 R0 C R := by
  obtain ⟨h1, h2, n1, f1, n2, f2, t1, t2, t3, t4, t5⟩ := h
  exact ⟨h1, h2, n1, f1, n2, f2, t1, t2, t3, t4, by omega⟩
theorem tab_end {C R C0 R0 C1 R1 : mm_M} {t n k : Nat} (h : Rel C R) (hc : kC C C0) (hr : kR R R0) (hn : n ≤ 40) (hk : k < 7) (hI : tabI t n n C0 R0 C1 R1) : endsL (f_X7_tell (nI k) C1) (f_X12_chance (nI k) R1) := by
  obtain ⟨h1, h2, n1, f1, n2, f2, t1, t2, t3, t4, t5⟩ := hI
  obtain ⟨x, C', y1, y2, y3⟩ := tell_ok t1 t2 t3 t4 (by omega) hk
  rw [y1, y2]
  refine ⟨x, C', R1, rfl, rfl, rel_k h (kC_t hc (fun a ha => ?_)) (kR_t hr ⟨fun a ha => h2 a (neR ha rfl), fun j hj => by rw [h2 0 (by omega)]⟩)⟩
  rw [y3]
  exact h1 a (neC ha rfl)
theorem helped_l {C R C0 R0 : mm_M} {t n k : Nat} (x : Int32) (h : Rel C R) (hc : kC C C0) (hr : kR R R0) (hT : TB t C0 R0) (hn : n ≤ 40) (hk : k < 7) (q1 : C0.1 2 8 = nI n) (q2 : R0.1 0 2 = nI n) (q3 : C0.1 51 = R0.1 15) (q4 : C0.1 16 = R0.1 47) (q5 : i01 (R0.1 47)) : ∀ (m i nC nR : Nat) (C1 R1 : mm_M), i + m = n → m < nC → m < nR → tabI t n i C0 R0 C1 R1 → endsL (f_X11_helped_45 f_X11_helped_90 nC x (nI k) (nI i) C1) (f_X12_helped_46 f_X12_helped_89 nR x (nI k) (nI i) R1) := by
  intro m
  induction m with
  | zero =>
    intro i nC nR C1 R1 hi h1 h2 hI
    obtain ⟨nC, rfl⟩ : ∃ q, nC = q + 1 := ⟨nC - 1, by omega⟩
    obtain ⟨nR, rfl⟩ : ∃ q, nR = q + 1 := ⟨nR - 1, by omega⟩
    obtain rfl : i = n := by omega
    unfold f_X11_helped_45 f_X12_helped_46 f_X11_helped_90 f_X12_helped_89 mI
    rw [hI.1 2 (by omega), hI.2.1 0 (by omega), q1, q2, if_pos (nI_le (by omega) (by omega)), if_pos (nI_le (by omega) (by omega)), biL_id, biL_id]
    exact tab_end h hc hr hn hk hI
  | succ m ih =>
    intro i nC nR C1 R1 hi h1 h2 hI
    obtain ⟨nC, rfl⟩ : ∃ q, nC = q + 1 := ⟨nC - 1, by omega⟩
    obtain ⟨nR, rfl⟩ : ∃ q, nR = q + 1 := ⟨nR - 1, by omega⟩
    unfold f_X11_helped_45 f_X11_helped_84 f_X12_helped_46 f_X12_helped_83 f_X12_helped_79 f_X12_helped_83 mI
    simp only [hI.1 2 (by omega), hI.2.1 0 (by omega), q1, q2, if_neg (nI_ge (show i < n by omega) (show n < 2 ^ 31 by omega)), ckI (show i < 40 by omega) (show 40 ≤ 100000 by omega), clI (show i < 2 ^ 31 by omega), hI.1 51 (by omega), hI.1 16 (by omega), hI.2.1 15 (by omega), hI.2.1 47 (by omega), q3, q4, add1]
    by_cases z1 : R0.1 15 i = 0
    · simp only [if_pos z1]
      exact ih (i + 1) nC nR C1 R1 (by omega) (by omega) (by omega) (tab_up hI)
    · simp only [if_neg z1]
      rcases rn01 (q5 i (by omega)) with z2 | z2
      · obtain ⟨C', R', y1, y2, y3⟩ := tab_enter (g := 0) (sd := 2) hT hI (nI i) x (by omega) rfl
        rw [z2, if_pos rfl, y2, show f_X11_enter (nI i) 0 x C1 = _ from y1, bv_, bv_]
        exact ih (i + 1) nC nR C' R' (by omega) (by omega) (by omega) y3
      · obtain ⟨C', R', y1, y2, y3⟩ := tab_enter (g := 1) (sd := 0) hT hI (nI i) x (by omega) rfl
        rw [z2, if_neg n10, y2, show f_X11_enter (nI i) 1 x C1 = _ from y1, bv_, bv_]
        exact ih (i + 1) nC nR C' R' (by omega) (by omega) (by omega) y3
theorem bvbv {α : Type} (F : Option mm_M) (G : mm_M → Option mm_M) (K : mm_M → Option α) : mm_bv F (fun M => mm_bv (G M) K) = mm_bv (mm_bv F G) K := by
  cases F <;> rfl
/-- the table's refusals: class, reference -/
theorem tref_7 {a b : Int32} (M : mm_M) (hb : b < 0 ∨ nI 7 ≤ b) : f_X11_tableRefusal a b M = some (-2, M) := by
  unfold f_X11_tableRefusal
  by_cases b0 : b < 0
  · rw [if_pos b0]
  · rw [if_neg b0, if_neg (show ¬ b < 7 from nlt_of.mpr (hb.resolve_left b0))]
theorem tref_y {a : Int32} {k : Nat} (M : mm_M) (hk : k < 7) : f_X11_tableRefusal a (nI k) M = f_X11_outside a 0 2000 M := by
  unfold f_X11_tableRefusal
  rw [if_neg (nI_pos (by omega)), if_pos (show nI k < 7 from nI_lt (b := 7) hk (by omega)), bi_id]
theorem z2' : ¬ (-2 : Int32) = 0 := by decide +kernel
theorem z4' : ¬ (-4 : Int32) = 0 := by decide +kernel
theorem z6' : ¬ (-6 : Int32) = 0 := by decide +kernel
theorem ok_helped (a b : Int32) : op_l Rel (f_X11_helped a b) (f_X12_helped a b) := by
  intro C R h
  show endsL _ _
  unfold f_X12_helped
  rw [let_]
  have h := rel_t h 0
  generalize sI R 0 0 0 = R at h ⊢
  unfold f_X11_helped
  rcases ix_of b (n := 7) (by omega) with ⟨k, hk, rfl⟩ | hb
  · rw [tref_y C hk, in_jx (n := 6) R (by omega) rfl hk, bi_, if_neg n10]
    rcases out_of (a := a) (lo := 0) (hi := 2000) C with ⟨q1, q2, q3⟩ | ⟨q1, q2, q3⟩ | ⟨q1, q3⟩
    · rw [q3, bi_, if_pos rfl, wd_ok R q1 q2, bi_, if_pos le00, bvbv]
      obtain ⟨C', R', n, t, g1, g2, g3, g4, g5, g6, g7, g8, g9, g10, g11, g12, g13, g14⟩ := table0 h
      rw [g1, g2, bv_, bv_]
      exact helped_l a h g3 g4 g5 g10 hk g8 g9 g11 g12 g14 n 0 mm_fu mm_fu C' R' (by omega) (fuGt (by omega)) (fuGt (by omega)) ⟨fun _ _ => rfl, fun _ _ => rfl, 0, 0, 0, 0, g6, g7, by omega, by omega, by omega⟩
    · rw [q3, bi_, if_neg z6', wd_6 R q1 q2, bi_, if_neg g6n, wd_6 R q1 q2, bi_]
      exact endsL_ref (ref6 h)
    · rw [q3, bi_, if_neg z4', wd_4 R q1, bi_, if_neg g4n, wd_4 R q1, bi_]
      exact endsL_ref (ref4 h)
  · rw [tref_7 C hb, bi_, if_neg z2', in_ix (n := 6) R (by omega) rfl hb, bi_, if_pos rfl]
    exact endsL_ref (ref2 h)
theorem wards_l {C R C0 R0 : mm_M} {t n k : Nat} (a b x : Int32) (h : Rel C R) (hc : kC C C0) (hr : kR R R0) (hT : TB t C0 R0) (hn : n ≤ 40) (hk : k < 7) (q1 : C0.1 2 8 = nI n) (q2 : R0.1 0 2 = nI n) (q3 : C0.1 27 = R0.1 2) : ∀ (m i nC nR : Nat) (C1 R1 : mm_M), i + m = n → m < nC → m < nR → tabI t n i C0 R0 C1 R1 → endsL (f_X11_wards_75 f_X11_wards_147 nC a b x (nI k) (nI i) C1) (f_X12_wards_78 f_X12_wards_138 nR a b x (nI k) (nI i) R1) := by
  intro m
  induction m with
  | zero =>
    intro i nC nR C1 R1 hi h1 h2 hI
    obtain ⟨nC, rfl⟩ : ∃ q, nC = q + 1 := ⟨nC - 1, by omega⟩
    obtain ⟨nR, rfl⟩ : ∃ q, nR = q + 1 := ⟨nR - 1, by omega⟩
    obtain rfl : i = n := by omega
    unfold f_X11_wards_75 f_X12_wards_78 f_X11_wards_147 f_X12_wards_138 mI
    rw [hI.1 2 (by omega), hI.2.1 0 (by omega), q1, q2, if_pos (nI_le (by omega) (by omega)), if_pos (nI_le (by omega) (by omega)), biL_id, biL_id]
    exact tab_end h hc hr hn hk hI
  | succ m ih =>
    intro i nC nR C1 R1 hi h1 h2 hI
    obtain ⟨nC, rfl⟩ : ∃ q, nC = q + 1 := ⟨nC - 1, by omega⟩
    obtain ⟨nR, rfl⟩ : ∃ q, nR = q + 1 := ⟨nR - 1, by omega⟩
    unfold f_X11_wards_75 f_X11_wards_115 f_X11_wards_137 f_X11_wards_141 f_X12_wards_78 f_X12_wards_109 f_X12_wards_128 f_X12_wards_132 mI
    simp only [hI.1 2 (by omega), hI.2.1 0 (by omega), q1, q2, if_neg (nI_ge (show i < n by omega) (show n < 2 ^ 31 by omega)), ckI (show i < 40 by omega) (show 40 ≤ 100000 by omega), clI (show i < 2 ^ 31 by omega), hI.1 27 (by omega), hI.2.1 2 (by omega), q3, add1]
    by_cases z1 : R0.1 2 i = a
    · simp only [if_pos z1]
      obtain ⟨C', R', y1, y2, y3⟩ := tab_enter (g := 1) (sd := 0) hT hI (nI i) x (by omega) rfl
      rw [y2, show f_X11_enter (nI i) 1 x C1 = _ from y1, bv_, bv_]
      exact ih (i + 1) nC nR C' R' (by omega) (by omega) (by omega) y3
    · simp only [if_neg z1]
      by_cases z2 : R0.1 2 i = b
      · simp only [if_pos z2]
        obtain ⟨C', R', y1, y2, y3⟩ := tab_enter (g := 0) (sd := 2) hT hI (nI i) x (by omega) rfl
        rw [y2, show f_X11_enter (nI i) 0 x C1 = _ from y1, bv_, bv_]
        exact ih (i + 1) nC nR C' R' (by omega) (by omega) (by omega) y3
      · simp only [if_neg z2]
        exact ih (i + 1) nC nR C1 R1 (by omega) (by omega) (by omega) (tab_up hI)
theorem warY {j : Nat} (C : mm_M) (h : j < 4) : f_X11_isWard (nI j) C = some (1, C) := by
  unfold f_X11_isWard
  rw [if_neg (nI_pos (by omega)), if_neg (show ¬ (4 : Int32) ≤ nI j from nI_ge (b := 4) h (by omega))]
theorem warN {a : Int32} (C : mm_M) (h : a < 0 ∨ nI 4 ≤ a) : f_X11_isWard a C = some (0, C) := by
  unfold f_X11_isWard
  by_cases a0 : a < 0
  · rw [if_pos a0]
  · rw [if_neg a0, if_pos (show (4 : Int32) ≤ a from h.resolve_left a0)]
theorem ok_wards (a b c d : Int32) : op_l Rel (f_X11_wards a b c d) (f_X12_wards a b c d) := by
  intro C R h
  show endsL _ _
  unfold f_X12_wards
  rw [let_]
  have h := rel_t h 0
  generalize sI R 0 0 0 = R at h ⊢
  unfold f_X11_wards f_X11_wards_19 f_X12_wards_28
  rcases ix_of a (n := 4) (by omega) with ⟨i, hi, rfl⟩ | ha
  · rw [warY C hi, bi_, if_neg n10, in_jx (n := 3) R (by omega) rfl hi, bi_, if_neg n10]
    rcases ix_of b (n := 4) (by omega) with ⟨j, hj, rfl⟩ | hb
    · rw [warY C hj, bi_, if_neg n10, in_jx (n := 3) R (by omega) rfl hj, bi_, if_neg n10]
      by_cases eij : nI i = nI j
      · rw [if_pos eij, if_pos eij]
        exact endsL_ref (ref1 h)
      · rw [if_neg eij, if_neg eij]
        rcases ix_of d (n := 7) (by omega) with ⟨k, hk, rfl⟩ | hd
        · rw [tref_y C hk, in_jx (n := 6) R (by omega) rfl hk, bi_, if_neg n10]
          rcases out_of (a := c) (lo := 0) (hi := 2000) C with ⟨q1, q2, q3⟩ | ⟨q1, q2, q3⟩ | ⟨q1, q3⟩
          · rw [q3, bi_, if_pos rfl, wd_ok R q1 q2, bi_, if_pos le00, bvbv]
            obtain ⟨C', R', n, t, g1, g2, g3, g4, g5, g6, g7, g8, g9, g10, g11, g12, g13, g14⟩ := table0 h
            rw [g1, g2, bv_, bv_]
            exact wards_l (nI i) (nI j) c h g3 g4 g5 g10 hk g8 g9 g13 n 0 mm_fu mm_fu C' R' (by omega) (fuGt (by omega)) (fuGt (by omega)) ⟨fun _ _ => rfl, fun _ _ => rfl, 0, 0, 0, 0, g6, g7, by omega, by omega, by omega⟩
          · rw [q3, bi_, if_neg z6', wd_6 R q1 q2, bi_, if_neg g6n, wd_6 R q1 q2, bi_]
            exact endsL_ref (ref6 h)
          · rw [q3, bi_, if_neg z4', wd_4 R q1, bi_, if_neg g4n, wd_4 R q1, bi_]
            exact endsL_ref (ref4 h)
        · rw [tref_7 C hd, bi_, if_neg z2', in_ix (n := 6) R (by omega) rfl hd, bi_, if_pos rfl]
          exact endsL_ref (ref2 h)
    · rw [warN C hb, bi_, if_pos rfl, in_ix (n := 3) R (by omega) rfl hb, bi_, if_pos rfl]
      exact endsL_ref (ref1 h)
  · rw [warN C ha, bi_, if_pos rfl, in_ix (n := 3) R (by omega) rfl ha, bi_, if_pos rfl]
    exact endsL_ref (ref1 h)

/-! one test's rows -/
def owT (R : mm_M) (j : Nat) : Int32 := ownF (R.1 8) (nN (R.1 28 j)) (R.1 30 j) 0 (nN (R.1 7 (nN (R.1 28 j)))) (-1)
/-- test j: shop s, child c, day e, owner q (a row's number), bits b, hour g -/
def tRow (R : mm_M) (n j s c e q b : Nat) : Prop := R.1 28 j = nI s ∧ s < n ∧ R.1 29 j = nI c ∧ c < 8 ∧ R.1 30 j = nI e ∧ e ≤ 2000 ∧ owT R j = nI q ∧ 6 * s ≤ q ∧ q < 6 * s + 6 ∧ R.1 32 j = nI b ∧ b ≤ 7
theorem kid_yes (C : mm_M) {i : Nat} (h : i < 8) : f_X0_has (nI i) C = some (1, C) := by
  unfold f_X0_has
  rw [if_neg (nI_pos (by omega)), if_neg (show ¬ (8 : Int32) ≤ nI i from nI_ge (b := 8) h (by decide))]
theorem tRow_of {C R : mm_M} (h : Rel C R) {n t j : Nat} (hn : R.1 0 2 = nI n) (hn4 : n ≤ 40) (ht : R.1 0 43 = nI t) (ht1 : t ≤ 100) (hj : j < t) : ∃ s c e q b, tRow R n j s c e q b ∧ f_X10_ownerOf (nI j) C = some (nI q, C) ∧ f_X12_ownerOn (R.1 28 j) (R.1 30 j) R = some (nI q, R) ∧ f_X10_visitOf (nI j) C = some (nI (40 * c + s), C) := by
  obtain ⟨⟨⟨bd, bn, bt, bu, bv, bw, bl⟩, ⟨sa, sb, sc, sd, se, sf, sg, sh⟩, ⟨ka, kb, kc, kd, ke⟩, ⟨ta, tb, tc, td, te, tf, tg⟩, ⟨ra, rb, rc, rd, re_, rf⟩, ⟨qa, qb, qc, qd, qe⟩⟩, hr, hl, hw, d, n', t', u, v, w, ⟨⟨⟨id1, id2⟩, ⟨in1, in2⟩, ⟨it1, it2⟩, ⟨iu1, iu2⟩, ⟨iv1, iv2⟩, ⟨iw1, iw2⟩, ilv⟩, jS, jK, jT, jR, jC, jB, jM, jD, jL⟩, hrule, hhome⟩ := h
  obtain rfl : n = n' := by
    have := hn.symm.trans in1
    exact (nI_eq (by omega) (by omega)).mp this
  obtain rfl : t = t' := by
    have := ht.symm.trans it1
    exact (nI_eq (by omega) (by omega)).mp this
  obtain ⟨s, c, e, a1, a2, a3, a4, a5, a6, a7, ⟨y0, a8, a9⟩, a10, a11, a12, a13⟩ := jT.1 j hj
  obtain ⟨b, b1, b2, b3⟩ := a11
  obtain ⟨_, _, _, _, _, _, o, o1, o2, o3, y1, o4, o5⟩ := jS.1 s a2
  have hc1 := bn.trans in1
  have hc4 := bt.trans it1
  have ow : f_X12_ownerOn (nI s) (nI e) R = some (ownF (R.1 8) s (nI e) 0 o (-1), R) := own_r (nI e) (by omega) o3 o1 o 0 mm_fu (-1) (by omega) (fuGt (by omega))
  have oc : f_X6_ownerOn (nI s) (nI e) C = some (ownF (R.1 8) s (nI e) 0 o (-1), C) := by
    unfold f_X6_ownerOn
    rw [has_y hc1 in2 a2, bi_, if_neg n10, ← sh]
    exact own_c (nI e) (by omega) o3 (by rw [sg]; exact o1) o 0 mm_fu (-1) (by omega) (fuGt (by omega))
  have hq : ∃ q, ownF (R.1 8) s (nI e) 0 o (-1) = nI q ∧ 6 * s ≤ q ∧ q < 6 * s + 6 := by
    rcases own_ok (R.1 8) s (nI e) o o 0 (-1) (by omega) (Or.inl ⟨rfl, fun k hk => absurd hk (by omega)⟩) with ⟨_, y⟩ | ⟨k, k1, k2, k3⟩
    · have := y 0 (by omega)
      rw [Nat.add_zero, a8] at this
      exact absurd this (nI_nlt a9 (by omega))
    · exact ⟨6 * s + k, k2, by omega, by omega⟩
  obtain ⟨q, q1, q2, q3⟩ := hq
  have eo : owT R j = nI q := by
    unfold owT
    rw [a1, a6, nN_nI (by omega), o1, nN_nI (by omega), q1]
  rw [q1] at ow oc
  refine ⟨s, c, e, q, b, ⟨a1, a2, a3, a4, a6, by omega, eo, q2, q3, b1, b3⟩, ?_, by rw [a1, a6]; exact ow, ?_⟩
  · unfold f_X10_ownerOf
    rw [test_y hc4 it2 hj, bi_, if_neg n10]
    simp (disch := omega) only [mI, let_, bi_, bv_, ckI, clI, nI_leI, nI_ltI, nI_eq, nI_add, add1, ad0, pk_mul, pk_sub, e0, e1, ge0, lt0, le0, gt0, lt1, l2_, l3, l4, l5, l6, l7, l8, l9, l10, l12, l13, l20, l26, l30, l40, l80, l99, l100, l240, l320, l999, l1000, l2000, a11, a01, z01, z00, bz0, bz1, s1, s2, l1, l2, upd_at, Nat.reduceEqDiff, reduceIte, ta, tc, a1, a6, oc]
  · unfold f_X10_visitOf
    rw [test_y hc4 it2 hj, bi_, if_neg n10]
    simp (disch := omega) only [mI, let_, bi_, bv_, ckI, clI, nI_leI, nI_ltI, nI_eq, nI_add, add1, ad0, pk_mul, pk_sub, e0, e1, ge0, lt0, le0, gt0, lt1, l2_, l3, l4, l5, l6, l7, l8, l9, l10, l12, l13, l20, l26, l30, l40, l80, l99, l100, l240, l320, l999, l1000, l2000, a11, a01, z01, z00, bz0, bz1, s1, s2, l1, l2, upd_at, Nat.reduceEqDiff, reduceIte, tb, ta, a1, a3, kid_yes C a4, has_y hc1 in2 a2]
    rw [Nat.mul_comm c 40]
theorem bit2 {b : Nat} (h : b ≤ 7) : ((nI b &&& 2) = 0 → (nI b &&& 2) / 2 = 0) ∧ (¬ (nI b &&& 2) = 0 → (nI b &&& 2) / 2 = 1) := by
  rcases (show b = 0 ∨ b = 1 ∨ b = 2 ∨ b = 3 ∨ b = 4 ∨ b = 5 ∨ b = 6 ∨ b = 7 by omega) with rfl | rfl | rfl | rfl | rfl | rfl | rfl | rfl <;> decide +kernel
theorem bit1 {b : Nat} (h : b ≤ 7) : ((nI b &&& 1) = 0 ∨ (nI b &&& 1) = 1) := by
  rcases (show b = 0 ∨ b = 1 ∨ b = 2 ∨ b = 3 ∨ b = 4 ∨ b = 5 ∨ b = 6 ∨ b = 7 by omega) with rfl | rfl | rfl | rfl | rfl | rfl | rfl | rfl <;> decide +kernel
theorem bit4 {b : Nat} (h : b ≤ 7) : ((nI b &&& 4) = 0 ∧ nI b / 4 = 0) ∨ (¬ (nI b &&& 4) = 0 ∧ nI b / 4 = 1) := by
  rcases (show b = 0 ∨ b = 1 ∨ b = 2 ∨ b = 3 ∨ b = 4 ∨ b = 5 ∨ b = 6 ∨ b = 7 by omega) with rfl | rfl | rfl | rfl | rfl | rfl | rfl | rfl <;> decide +kernel
/-- is a child known in a shop: the class -/
theorem known_c {C : mm_M} {c s : Nat} (hc : c < 8) (hs : s < 40) : f_X0_isKnown (nI c) (nI s) C = some (if C.1 38 (40 * c + s) = 0 then 0 else 1, C) := by
  unfold f_X0_isKnown
  rw [kid_yes C hc, bi_, if_neg n10]
  have q1 : ¬ 40 ≤ s := by omega
  simp (disch := omega) only [mI, let_, bi_, bv_, ckI, clI, nI_leI, nI_ltI, nI_eq, nI_add, add1, ad0, pk_mul, pk_sub, e0, e1, ge0, lt0, le0, gt0, lt1, l2_, l3, l4, l5, l6, l7, l8, l9, l10, l12, l13, l20, l26, l30, l40, l80, l99, l100, l240, l320, l999, l1000, l2000, a11, a01, z01, z00, bz0, bz1, s1, s2, l1, l2, upd_at, Nat.reduceEqDiff, reduceIte, q1]
  rw [Nat.mul_comm c 40]
  split <;> rfl
theorem kk_0 {α : Type} {X : Option α} : mm_ck (0 : Int32) 26 X = X := ckI (j := 0) (by omega) (by omega)
theorem kc_0 : (0 : Int32).toNatClampNeg = 0 := rfl
theorem kk_1 {α : Type} {X : Option α} : mm_ck (1 : Int32) 26 X = X := ckI (j := 1) (by omega) (by omega)
theorem kc_1 : (1 : Int32).toNatClampNeg = 1 := rfl
theorem kk_2 {α : Type} {X : Option α} : mm_ck (2 : Int32) 26 X = X := ckI (j := 2) (by omega) (by omega)
theorem kc_2 : (2 : Int32).toNatClampNeg = 2 := rfl
theorem kk_3 {α : Type} {X : Option α} : mm_ck (3 : Int32) 26 X = X := ckI (j := 3) (by omega) (by omega)
theorem kc_3 : (3 : Int32).toNatClampNeg = 3 := rfl
theorem kk_6 {α : Type} {X : Option α} : mm_ck (6 : Int32) 26 X = X := ckI (j := 6) (by omega) (by omega)
theorem kc_6 : (6 : Int32).toNatClampNeg = 6 := rfl
theorem kk_7 {α : Type} {X : Option α} : mm_ck (7 : Int32) 26 X = X := ckI (j := 7) (by omega) (by omega)
theorem kc_7 : (7 : Int32).toNatClampNeg = 7 := rfl
theorem kk_10 {α : Type} {X : Option α} : mm_ck (10 : Int32) 26 X = X := ckI (j := 10) (by omega) (by omega)
theorem kc_10 : (10 : Int32).toNatClampNeg = 10 := rfl
theorem kk_12 {α : Type} {X : Option α} : mm_ck (12 : Int32) 26 X = X := ckI (j := 12) (by omega) (by omega)
theorem kc_12 : (12 : Int32).toNatClampNeg = 12 := rfl
theorem kk_13 {α : Type} {X : Option α} : mm_ck (13 : Int32) 26 X = X := ckI (j := 13) (by omega) (by omega)
theorem kc_13 : (13 : Int32).toNatClampNeg = 13 := rfl
theorem kk_14 {α : Type} {X : Option α} : mm_ck (14 : Int32) 26 X = X := ckI (j := 14) (by omega) (by omega)
theorem kc_14 : (14 : Int32).toNatClampNeg = 14 := rfl
theorem kk_15 {α : Type} {X : Option α} : mm_ck (15 : Int32) 26 X = X := ckI (j := 15) (by omega) (by omega)
theorem kc_15 : (15 : Int32).toNatClampNeg = 15 := rfl
theorem kk_18 {α : Type} {X : Option α} : mm_ck (18 : Int32) 26 X = X := ckI (j := 18) (by omega) (by omega)
theorem kc_18 : (18 : Int32).toNatClampNeg = 18 := rfl
theorem kk_24 {α : Type} {X : Option α} : mm_ck (24 : Int32) 26 X = X := ckI (j := 24) (by omega) (by omega)
theorem kc_24 : (24 : Int32).toNatClampNeg = 24 := rfl
theorem g296 {q : Nat} (hq : q < 240) (v : Int32) (M : mm_M) : f_X10_gather_296 (nI q) 18 v M = some (sI (sI M 19 18 v) 19 24 (M.1 24 q)) := by
  unfold f_X10_gather_296
  simp (disch := omega) only [mI, let_, bi_, bv_, ckI, clI, s1, s2, l1, l2, upd_at, Nat.reduceEqDiff, reduceIte, kk_0, kc_0, kk_1, kc_1, kk_2, kc_2, kk_3, kc_3, kk_6, kc_6, kk_7, kc_7, kk_10, kc_10, kk_12, kc_12, kk_13, kc_13, kk_14, kc_14, kk_15, kc_15, kk_18, kc_18, kk_24, kc_24]
theorem g251 {q : Nat} (hq : q < 240) (x v : Int32) (M : mm_M) : f_X10_gather_251 (nI q) x 13 v M = some (sI (sI (sI (sI (sI M 19 13 v) 19 14 (M.1 21 q)) 19 15 (M.1 22 q)) 19 18 (if (x &&& 4) = 0 then 0 else 1)) 19 24 (M.1 24 q)) := by
  unfold f_X10_gather_251
  by_cases e : (x &&& 4) = 0
  · simp (disch := omega) only [mI, let_, bi_, bv_, ckI, clI, s1, s2, l1, l2, upd_at, Nat.reduceEqDiff, reduceIte, kk_0, kc_0, kk_1, kc_1, kk_2, kc_2, kk_3, kc_3, kk_6, kc_6, kk_7, kc_7, kk_10, kc_10, kk_12, kc_12, kk_13, kc_13, kk_14, kc_14, kk_15, kc_15, kk_18, kc_18, kk_24, kc_24, e, g296 hq]
  · simp (disch := omega) only [mI, let_, bi_, bv_, ckI, clI, s1, s2, l1, l2, upd_at, Nat.reduceEqDiff, reduceIte, kk_0, kc_0, kk_1, kc_1, kk_2, kc_2, kk_3, kc_3, kk_6, kc_6, kk_7, kc_7, kk_10, kc_10, kk_12, kc_12, kk_13, kc_13, kk_14, kc_14, kk_15, kc_15, kk_18, kc_18, kk_24, kc_24, e, g296 hq]
theorem g218 {j s c q : Nat} (hj : j < 100) (hs : s < 40) (hc : c < 8) (hq : q < 240) (x v : Int32) (M : mm_M) (t1 : M.1 39 j = nI s) : f_X10_gather_218 (nI j) (nI q) (nI c) x 12 v M = some (sI (sI (sI (sI (sI (sI M 19 12 v) 19 13 (if M.1 38 (40 * c + s) = 0 then 0 else 1)) 19 14 (M.1 21 q)) 19 15 (M.1 22 q)) 19 18 (if (x &&& 4) = 0 then 0 else 1)) 19 24 (M.1 24 q)) := by
  unfold f_X10_gather_218
  by_cases e : M.1 38 (40 * c + s) = 0
  · simp (disch := omega) only [mI, let_, bi_, bv_, ckI, clI, s1, s2, l1, l2, upd_at, Nat.reduceEqDiff, reduceIte, kk_0, kc_0, kk_1, kc_1, kk_2, kc_2, kk_3, kc_3, kk_6, kc_6, kk_7, kc_7, kk_10, kc_10, kk_12, kc_12, kk_13, kc_13, kk_14, kc_14, kk_15, kc_15, kk_18, kc_18, kk_24, kc_24, t1, known_c hc hs, g251 hq, e]
  · simp (disch := omega) only [mI, let_, bi_, bv_, ckI, clI, s1, s2, l1, l2, upd_at, Nat.reduceEqDiff, reduceIte, kk_0, kc_0, kk_1, kc_1, kk_2, kc_2, kk_3, kc_3, kk_6, kc_6, kk_7, kc_7, kk_10, kc_10, kk_12, kc_12, kk_13, kc_13, kk_14, kc_14, kk_15, kc_15, kk_18, kc_18, kk_24, kc_24, t1, known_c hc hs, g251 hq, e, n10]
theorem g155 {j s c q w : Nat} (hj : j < 100) (hs : s < 40) (hc : c < 8) (hq : q < 240) (hw : w < 320) (x y v : Int32) (M : mm_M) (t1 : M.1 39 j = nI s) : f_X10_gather_155 (nI j) (nI q) (nI w) (nI c) y x 6 v M = some (sI (sI (sI (sI (sI (sI (sI (sI (sI M 19 6 v) 19 7 (M.1 42 j)) 19 10 (M.1 20 w)) 19 12 (if M.1 25 q = -1 then 99 else (y - M.1 25 q) / 30)) 19 13 (if M.1 38 (40 * c + s) = 0 then 0 else 1)) 19 14 (M.1 21 q)) 19 15 (M.1 22 q)) 19 18 (if (x &&& 4) = 0 then 0 else 1)) 19 24 (M.1 24 q)) := by
  unfold f_X10_gather_155
  by_cases e : M.1 25 q = -1
  · simp (disch := omega) only [mI, let_, bi_, bv_, ckI, clI, s1, s2, l1, l2, upd_at, Nat.reduceEqDiff, reduceIte, kk_0, kc_0, kk_1, kc_1, kk_2, kc_2, kk_3, kc_3, kk_6, kc_6, kk_7, kc_7, kk_10, kc_10, kk_12, kc_12, kk_13, kc_13, kk_14, kc_14, kk_15, kc_15, kk_18, kc_18, kk_24, kc_24, e]
    rw [g218 hj hs hc hq x _ _ (by simp (disch := omega) only [mI, let_, bi_, bv_, ckI, clI, s1, s2, l1, l2, upd_at, Nat.reduceEqDiff, reduceIte, kk_0, kc_0, kk_1, kc_1, kk_2, kc_2, kk_3, kc_3, kk_6, kc_6, kk_7, kc_7, kk_10, kc_10, kk_12, kc_12, kk_13, kc_13, kk_14, kc_14, kk_15, kc_15, kk_18, kc_18, kk_24, kc_24]; exact t1)]
    simp (disch := omega) only [mI, let_, bi_, bv_, ckI, clI, s1, s2, l1, l2, upd_at, Nat.reduceEqDiff, reduceIte, kk_0, kc_0, kk_1, kc_1, kk_2, kc_2, kk_3, kc_3, kk_6, kc_6, kk_7, kc_7, kk_10, kc_10, kk_12, kc_12, kk_13, kc_13, kk_14, kc_14, kk_15, kc_15, kk_18, kc_18, kk_24, kc_24]
  · simp (disch := omega) only [mI, let_, bi_, bv_, ckI, clI, s1, s2, l1, l2, upd_at, Nat.reduceEqDiff, reduceIte, kk_0, kc_0, kk_1, kc_1, kk_2, kc_2, kk_3, kc_3, kk_6, kc_6, kk_7, kc_7, kk_10, kc_10, kk_12, kc_12, kk_13, kc_13, kk_14, kc_14, kk_15, kc_15, kk_18, kc_18, kk_24, kc_24, e]
    rw [g218 hj hs hc hq x _ _ (by simp (disch := omega) only [mI, let_, bi_, bv_, ckI, clI, s1, s2, l1, l2, upd_at, Nat.reduceEqDiff, reduceIte, kk_0, kc_0, kk_1, kc_1, kk_2, kc_2, kk_3, kc_3, kk_6, kc_6, kk_7, kc_7, kk_10, kc_10, kk_12, kc_12, kk_13, kc_13, kk_14, kc_14, kk_15, kc_15, kk_18, kc_18, kk_24, kc_24]; exact t1)]
    simp (disch := omega) only [mI, let_, bi_, bv_, ckI, clI, s1, s2, l1, l2, upd_at, Nat.reduceEqDiff, reduceIte, kk_0, kc_0, kk_1, kc_1, kk_2, kc_2, kk_3, kc_3, kk_6, kc_6, kk_7, kc_7, kk_10, kc_10, kk_12, kc_12, kk_13, kc_13, kk_14, kc_14, kk_15, kc_15, kk_18, kc_18, kk_24, kc_24]
theorem g136 {j s c q w : Nat} (hj : j < 100) (hs : s < 40) (hc : c < 8) (hq : q < 240) (hw : w < 320) (x y v : Int32) (M : mm_M) (t1 : M.1 39 j = nI s) : f_X10_gather_136 (nI j) (nI q) (nI w) (nI c) y x 3 v M = some (sI (sI (sI (sI (sI (sI (sI (sI (sI (sI M 19 3 v) 19 6 (if (x &&& 1) = 0 then 0 else 1)) 19 7 (M.1 42 j)) 19 10 (M.1 20 w)) 19 12 (if M.1 25 q = -1 then 99 else (y - M.1 25 q) / 30)) 19 13 (if M.1 38 (40 * c + s) = 0 then 0 else 1)) 19 14 (M.1 21 q)) 19 15 (M.1 22 q)) 19 18 (if (x &&& 4) = 0 then 0 else 1)) 19 24 (M.1 24 q)) := by
  unfold f_X10_gather_136
  simp (disch := omega) only [mI, let_, bi_, bv_, ckI, clI, s1, s2, l1, l2, upd_at, Nat.reduceEqDiff, reduceIte, kk_0, kc_0, kk_1, kc_1, kk_2, kc_2, kk_3, kc_3, kk_6, kc_6, kk_7, kc_7, kk_10, kc_10, kk_12, kc_12, kk_13, kc_13, kk_14, kc_14, kk_15, kc_15, kk_18, kc_18, kk_24, kc_24]
  by_cases e : (x &&& 1) = 0
  · rw [if_pos e, if_pos e, g155 hj hs hc hq hw x y _ _ (by simp (disch := omega) only [mI, let_, bi_, bv_, ckI, clI, s1, s2, l1, l2, upd_at, Nat.reduceEqDiff, reduceIte, kk_0, kc_0, kk_1, kc_1, kk_2, kc_2, kk_3, kc_3, kk_6, kc_6, kk_7, kc_7, kk_10, kc_10, kk_12, kc_12, kk_13, kc_13, kk_14, kc_14, kk_15, kc_15, kk_18, kc_18, kk_24, kc_24]; exact t1)]
    simp (disch := omega) only [mI, let_, bi_, bv_, ckI, clI, s1, s2, l1, l2, upd_at, Nat.reduceEqDiff, reduceIte, kk_0, kc_0, kk_1, kc_1, kk_2, kc_2, kk_3, kc_3, kk_6, kc_6, kk_7, kc_7, kk_10, kc_10, kk_12, kc_12, kk_13, kc_13, kk_14, kc_14, kk_15, kc_15, kk_18, kc_18, kk_24, kc_24]
  · rw [if_neg e, if_neg e, g155 hj hs hc hq hw x y _ _ (by simp (disch := omega) only [mI, let_, bi_, bv_, ckI, clI, s1, s2, l1, l2, upd_at, Nat.reduceEqDiff, reduceIte, kk_0, kc_0, kk_1, kc_1, kk_2, kc_2, kk_3, kc_3, kk_6, kc_6, kk_7, kc_7, kk_10, kc_10, kk_12, kc_12, kk_13, kc_13, kk_14, kc_14, kk_15, kc_15, kk_18, kc_18, kk_24, kc_24]; exact t1)]
    simp (disch := omega) only [mI, let_, bi_, bv_, ckI, clI, s1, s2, l1, l2, upd_at, Nat.reduceEqDiff, reduceIte, kk_0, kc_0, kk_1, kc_1, kk_2, kc_2, kk_3, kc_3, kk_6, kc_6, kk_7, kc_7, kk_10, kc_10, kk_12, kc_12, kk_13, kc_13, kk_14, kc_14, kk_15, kc_15, kk_18, kc_18, kk_24, kc_24]
theorem g105 {j s c q w : Nat} (hj : j < 100) (hs : s < 40) (hc : c < 8) (hq : q < 240) (hw : w < 320) (x y v : Int32) (M : mm_M) (t1 : M.1 39 j = nI s) : f_X10_gather_105 (nI j) (nI q) (nI w) (nI c) y x 2 v M = some (sI (sI (sI (sI (sI (sI (sI (sI (sI (sI (sI M 19 2 v) 19 3 (if M.1 23 q = -1 then 999 else y - M.1 23 q)) 19 6 (if (x &&& 1) = 0 then 0 else 1)) 19 7 (M.1 42 j)) 19 10 (M.1 20 w)) 19 12 (if M.1 25 q = -1 then 99 else (y - M.1 25 q) / 30)) 19 13 (if M.1 38 (40 * c + s) = 0 then 0 else 1)) 19 14 (M.1 21 q)) 19 15 (M.1 22 q)) 19 18 (if (x &&& 4) = 0 then 0 else 1)) 19 24 (M.1 24 q)) := by
  unfold f_X10_gather_105
  by_cases e : M.1 23 q = -1
  · simp (disch := omega) only [mI, let_, bi_, bv_, ckI, clI, s1, s2, l1, l2, upd_at, Nat.reduceEqDiff, reduceIte, kk_0, kc_0, kk_1, kc_1, kk_2, kc_2, kk_3, kc_3, kk_6, kc_6, kk_7, kc_7, kk_10, kc_10, kk_12, kc_12, kk_13, kc_13, kk_14, kc_14, kk_15, kc_15, kk_18, kc_18, kk_24, kc_24, e]
    rw [g136 hj hs hc hq hw x y _ _ (by simp (disch := omega) only [mI, let_, bi_, bv_, ckI, clI, s1, s2, l1, l2, upd_at, Nat.reduceEqDiff, reduceIte, kk_0, kc_0, kk_1, kc_1, kk_2, kc_2, kk_3, kc_3, kk_6, kc_6, kk_7, kc_7, kk_10, kc_10, kk_12, kc_12, kk_13, kc_13, kk_14, kc_14, kk_15, kc_15, kk_18, kc_18, kk_24, kc_24]; exact t1)]
    simp (disch := omega) only [mI, let_, bi_, bv_, ckI, clI, s1, s2, l1, l2, upd_at, Nat.reduceEqDiff, reduceIte, kk_0, kc_0, kk_1, kc_1, kk_2, kc_2, kk_3, kc_3, kk_6, kc_6, kk_7, kc_7, kk_10, kc_10, kk_12, kc_12, kk_13, kc_13, kk_14, kc_14, kk_15, kc_15, kk_18, kc_18, kk_24, kc_24]
  · simp (disch := omega) only [mI, let_, bi_, bv_, ckI, clI, s1, s2, l1, l2, upd_at, Nat.reduceEqDiff, reduceIte, kk_0, kc_0, kk_1, kc_1, kk_2, kc_2, kk_3, kc_3, kk_6, kc_6, kk_7, kc_7, kk_10, kc_10, kk_12, kc_12, kk_13, kc_13, kk_14, kc_14, kk_15, kc_15, kk_18, kc_18, kk_24, kc_24, e]
    rw [g136 hj hs hc hq hw x y _ _ (by simp (disch := omega) only [mI, let_, bi_, bv_, ckI, clI, s1, s2, l1, l2, upd_at, Nat.reduceEqDiff, reduceIte, kk_0, kc_0, kk_1, kc_1, kk_2, kc_2, kk_3, kc_3, kk_6, kc_6, kk_7, kc_7, kk_10, kc_10, kk_12, kc_12, kk_13, kc_13, kk_14, kc_14, kk_15, kc_15, kk_18, kc_18, kk_24, kc_24]; exact t1)]
    simp (disch := omega) only [mI, let_, bi_, bv_, ckI, clI, s1, s2, l1, l2, upd_at, Nat.reduceEqDiff, reduceIte, kk_0, kc_0, kk_1, kc_1, kk_2, kc_2, kk_3, kc_3, kk_6, kc_6, kk_7, kc_7, kk_10, kc_10, kk_12, kc_12, kk_13, kc_13, kk_14, kc_14, kk_15, kc_15, kk_18, kc_18, kk_24, kc_24]
/-- the class's facts of test j -/
theorem gather_ok {C : mm_M} {j s c e q b k : Nat} (hj : j < 100) (hs : s < 40) (hc : c < 8) (hb : b ≤ 7) (hq : q < 240) (t1 : C.1 39 j = nI s) (t2 : C.1 40 j = nI c) (t3 : C.1 41 j = nI e) (t4 : C.1 43 j = nI b) (ho : f_X10_ownerOf (nI j) C = some (nI q, C)) (hv : f_X10_visitOf (nI j) C = some (nI (40 * c + s), C)) (hk : C.1 36 c = nI k) (hk2 : k ≤ 12) : ∃ C1, f_X10_gather (nI j) C = some C1 ∧ (∀ a, a ≠ 19 → C1.1 a = C.1 a) ∧ C1.1 19 0 = (nI e - C.1 35 c) / 365 ∧ C1.1 19 1 = lookOf (C.1 37) (C.1 36) (C.1 35) c (nI e) k ∧ C1.1 19 2 = (nI b &&& 2) / 2 ∧ C1.1 19 3 = (if C.1 23 q = -1 then 999 else nI e - C.1 23 q) ∧ C1.1 19 6 = (nI b &&& 1) ∧ C1.1 19 7 = C.1 42 j ∧ C1.1 19 10 = C.1 20 (40 * c + s) ∧ C1.1 19 12 = (if C.1 25 q = -1 then 99 else (nI e - C.1 25 q) / 30) ∧ C1.1 19 13 = (if C.1 38 (40 * c + s) = 0 then 0 else 1) ∧ C1.1 19 14 = C.1 21 q ∧ C1.1 19 15 = C.1 22 q ∧ C1.1 19 18 = nI b / 4 ∧ C1.1 19 24 = C.1 24 q := by
  have e1' : (if (nI b &&& 1) = 0 then (0 : Int32) else 1) = (nI b &&& 1) := by
    rcases bit1 hb with z | z <;> rw [z] <;> rfl
  have e4 : (if (nI b &&& 4) = 0 then (0 : Int32) else 1) = nI b / 4 := by
    rcases bit4 hb with ⟨z, y⟩ | ⟨z, y⟩
    · rw [if_pos z, y]
    · rw [if_neg z, y]
  have fin : ∀ v M, (v = (nI b &&& 2) / 2) → M = sI (sI C 19 0 ((nI e - C.1 35 c) / 365)) 19 1 (lookOf (C.1 37) (C.1 36) (C.1 35) c (nI e) k) → ∃ C1, f_X10_gather_105 (nI j) (nI q) (nI (40 * c + s)) (nI c) (nI e) (nI b) 2 v M = some C1 ∧ (∀ a, a ≠ 19 → C1.1 a = C.1 a) ∧ C1.1 19 0 = (nI e - C.1 35 c) / 365 ∧ C1.1 19 1 = lookOf (C.1 37) (C.1 36) (C.1 35) c (nI e) k ∧ C1.1 19 2 = (nI b &&& 2) / 2 ∧ C1.1 19 3 = (if C.1 23 q = -1 then 999 else nI e - C.1 23 q) ∧ C1.1 19 6 = (nI b &&& 1) ∧ C1.1 19 7 = C.1 42 j ∧ C1.1 19 10 = C.1 20 (40 * c + s) ∧ C1.1 19 12 = (if C.1 25 q = -1 then 99 else (nI e - C.1 25 q) / 30) ∧ C1.1 19 13 = (if C.1 38 (40 * c + s) = 0 then 0 else 1) ∧ C1.1 19 14 = C.1 21 q ∧ C1.1 19 15 = C.1 22 q ∧ C1.1 19 18 = nI b / 4 ∧ C1.1 19 24 = C.1 24 q := by
    intro v M hv hM
    subst hM
    rw [g105 hj hs hc hq (by omega) (nI b) (nI e) v _ (by simp (disch := omega) only [mI, let_, bi_, bv_, ckI, clI, s1, s2, l1, l2, upd_at, Nat.reduceEqDiff, reduceIte, kk_0, kc_0, kk_1, kc_1, kk_2, kc_2, kk_3, kc_3, kk_6, kc_6, kk_7, kc_7, kk_10, kc_10, kk_12, kc_12, kk_13, kc_13, kk_14, kc_14, kk_15, kc_15, kk_18, kc_18, kk_24, kc_24]; exact t1), e1', e4]
    refine ⟨_, rfl, fun a ha => by simp only [s1, s2, l1, l2, upd_at, Nat.reduceEqDiff, reduceIte, ha], ?_⟩
    simp only [s1, s2, l1, l2, upd_at, Nat.reduceEqDiff, reduceIte]
    exact ⟨trivial, trivial, hv, trivial, trivial, trivial, trivial, trivial, trivial, trivial, trivial, trivial, trivial⟩
  unfold f_X10_gather
  rw [ho, bi_, hv, bi_, if_neg (nI_pos (by omega)), if_pos (nI_pos' (by omega))]
  simp (disch := omega) only [mI, let_, bi_, bv_, ckI, clI, s1, s2, l1, l2, upd_at, Nat.reduceEqDiff, reduceIte, kk_0, kc_0, kk_1, kc_1, kk_2, kc_2, kk_3, kc_3, kk_6, kc_6, kk_7, kc_7, kk_10, kc_10, kk_12, kc_12, kk_13, kc_13, kk_14, kc_14, kk_15, kc_15, kk_18, kc_18, kk_24, kc_24, t2, t3, t4]
  rw [age_c hc, bi_]
  try simp (disch := omega) only [mI, let_, bi_, bv_, ckI, clI, s1, s2, l1, l2, upd_at, Nat.reduceEqDiff, reduceIte, kk_0, kc_0, kk_1, kc_1, kk_2, kc_2, kk_3, kc_3, kk_6, kc_6, kk_7, kc_7, kk_10, kc_10, kk_12, kc_12, kk_13, kc_13, kk_14, kc_14, kk_15, kc_15, kk_18, kc_18, kk_24, kc_24]
  rw [looks_c (k := k) hc (nI e) (by simp (disch := omega) only [mI, let_, bi_, bv_, ckI, clI, s1, s2, l1, l2, upd_at, Nat.reduceEqDiff, reduceIte, kk_0, kc_0, kk_1, kc_1, kk_2, kc_2, kk_3, kc_3, kk_6, kc_6, kk_7, kc_7, kk_10, kc_10, kk_12, kc_12, kk_13, kc_13, kk_14, kc_14, kk_15, kc_15, kk_18, kc_18, kk_24, kc_24]; exact hk) hk2, bi_]
  try simp (disch := omega) only [mI, let_, bi_, bv_, ckI, clI, s1, s2, l1, l2, upd_at, Nat.reduceEqDiff, reduceIte, kk_0, kc_0, kk_1, kc_1, kk_2, kc_2, kk_3, kc_3, kk_6, kc_6, kk_7, kc_7, kk_10, kc_10, kk_12, kc_12, kk_13, kc_13, kk_14, kc_14, kk_15, kc_15, kk_18, kc_18, kk_24, kc_24]
  by_cases z : (nI b &&& 2) = 0
  · rw [if_pos z]
    exact fin 0 _ ((bit2 hb).1 z).symm rfl
  · rw [if_neg z]
    exact fin 1 _ ((bit2 hb).2 z).symm rfl

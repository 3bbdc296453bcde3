theorem tRow_k {R R' : mm_M} {n j s c e q b : Nat} (h : kR R R') (g : tRow R n j s c e q b) : tRow R' n j s c e q b := by
  unfold tRow at *
  rw [h.1 28 rfl, h.1 29 rfl, h.1 30 rfl, h.1 32 rfl, owT_k h]
  exact g
theorem tRow_use {C R : mm_M} (h : Rel C R) {n t j s c e q b : Nat} (hn : R.1 0 2 = nI n) (hn4 : n ≤ 40) (ht : R.1 0 43 = nI t) (ht1 : t ≤ 100) (hj : j < t) (g : tRow R n j s c e q b) : f_X10_ownerOf (nI j) C = some (nI q, C) ∧ f_X12_ownerOn (R.1 28 j) (R.1 30 j) R = some (nI q, R) ∧ f_X10_visitOf (nI j) C = some (nI (40 * c + s), C) := by
  obtain ⟨s', c', e', q', b', a1, a2, a3, a4⟩ := tRow_of h hn hn4 ht ht1 hj
  obtain ⟨t1, t2, t3, t4, t5, t6, t7, t8, t9, t10, t11⟩ := g
  obtain ⟨u1, u2, u3, u4, u5, u6, u7, u8, u9, u10, u11⟩ := a1
  have es : s' = s := (nI_eq (by omega) (by omega)).mp (u1.symm.trans t1)
  have ec : c' = c := (nI_eq (by omega) (by omega)).mp (u3.symm.trans t3)
  have eq_ : q' = q := (nI_eq (by omega) (by omega)).mp (u7.symm.trans t7)
  rw [← es, ← ec, ← eq_]
  exact ⟨a2, a3, a4⟩
theorem sold_c {C : mm_M} {t j b : Nat} (h : C.1 4 7 = nI t) (ht : t ≤ 100) (hj : j < t) (hb : C.1 43 j = nI b) : f_X9_isSold (nI j) C = some (if (nI b &&& 4) = 0 then 0 else 1, C) := by
  unfold f_X9_isSold
  rw [test_y h ht hj, bi_, if_neg n10]
  simp (disch := omega) only [mI, let_, bi_, bv_, ckI, clI, s1, s2, l1, l2, upd_at, Nat.reduceEqDiff, reduceIte, kk_0, kc_0, kk_1, kc_1, kk_2, kc_2, kk_3, kc_3, kk_6, kc_6, kk_7, kc_7, kk_10, kc_10, kk_12, kc_12, kk_13, kc_13, kk_14, kc_14, kk_15, kc_15, kk_18, kc_18, kk_24, kc_24, hb]
  split <;> rfl
theorem kR_H {R R' : mm_M} (h : kpH R R') : kR R R' := ⟨fun a ha => h.1 a (neR ha rfl) (neR ha rfl) (neR ha rfl) (neR ha rfl), fun j hj => h.2 j (neZ hj rfl) (neZ hj rfl) (neZ hj rfl) (neZ hj rfl) (neZ hj rfl) (neZ hj rfl)⟩
theorem kpH_r (R : mm_M) : kpH R R := ⟨fun _ _ _ _ _ => rfl, fun _ _ _ _ _ _ _ => rfl⟩
theorem kC_50 {C C' : mm_M} (h : ∀ a, a ≠ 50 → C'.1 a = C.1 a) : kC C C' := fun a ha => h a (neC ha rfl)
theorem kC_19 {C C' : mm_M} (h : ∀ a, a ≠ 19 → C'.1 a = C.1 a) : kC C C' := fun a ha => h a (neC ha rfl)
theorem one164 {q : Nat} (hq : q < 240) (y x5 : Int32) (M : mm_M) : f_X12_weighOne_164 y (nI q) x5 M = some (sI (sI (sI M 41 q (M.1 41 q + 1)) 42 q (M.1 42 q + (if x5 = 0 then 0 else 1))) 43 q y) := by
  unfold f_X12_weighOne_164 f_X12_weighOne_191
  by_cases e : x5 = 0
  · rw [if_pos e]
    simp (disch := omega) only [mI, let_, bi_, bv_, ckI, clI, s1, s2, l1, l2, upd_at, Nat.reduceEqDiff, reduceIte, kk_0, kc_0, kk_1, kc_1, kk_2, kc_2, kk_3, kc_3, kk_6, kc_6, kk_7, kc_7, kk_10, kc_10, kk_12, kc_12, kk_13, kc_13, kk_14, kc_14, kk_15, kc_15, kk_18, kc_18, kk_24, kc_24]
    rw [if_pos e]
  · rw [if_neg e]
    simp (disch := omega) only [mI, let_, bi_, bv_, ckI, clI, s1, s2, l1, l2, upd_at, Nat.reduceEqDiff, reduceIte, kk_0, kc_0, kk_1, kc_1, kk_2, kc_2, kk_3, kc_3, kk_6, kc_6, kk_7, kc_7, kk_10, kc_10, kk_12, kc_12, kk_13, kc_13, kk_14, kc_14, kk_15, kc_15, kk_18, kc_18, kk_24, kc_24]
    rw [if_neg e]
theorem hold2 {C R : mm_M} (h : Rel C R) (hc : corr (C.1 19) (R.1 25)) (x y : Int32) : (f_X5_holds x y C = some (if x = 0 then 1 else 0, C) ∧ f_X12_ruleOn x y R = some (-1, R)) ∨ ∃ p b C' R', p < 20 ∧ b ≤ 1 ∧ f_X5_holds x y C = some (nI b, C') ∧ f_X12_ruleOn x y R = some (nI p, R) ∧ f_X12_holds (nI p) R = some (nI b, R') ∧ (∀ a, a ≠ 50 → C'.1 a = C.1 a) ∧ kpH R R' := by
  obtain ⟨⟨⟨bd, bn, bt, bu, bv, bw, bl⟩, ⟨sa, sb, sc, sd, se, sf, sg, sh⟩, ⟨ka, kb, kc, kd, ke⟩, ⟨ta, tb, tc, td, te, tf, tg⟩, ⟨ra, rb, rc, rd, re_, rf⟩, ⟨qa, qb, qc, qd, qe⟩⟩, hr, hl, hw, d, n, t, u, v, w, ⟨⟨⟨id1, id2⟩, ⟨in1, in2⟩, ⟨it1, it2⟩, ⟨iu1, iu2⟩, ⟨iv1, iv2⟩, ⟨iw1, iw2⟩, ilv⟩, jS, jK, jT, jR, jC, jB, jM, jD, jL⟩, hrule, hhome⟩ := h
  rcases holds_ok iu2 (bu.trans iu1) iu1 ra rb jR hrule hc x y with z | ⟨p, b, C', R', z1, z2, z3, z4, z5, z6, z7⟩
  · exact Or.inl z
  · rcases z2 with e | e
    · exact Or.inr ⟨p, 0, C', R', by omega, by omega, by rw [z3, e]; rfl, z4, by rw [z5, e]; rfl, z6, z7⟩
    · exact Or.inr ⟨p, 1, C', R', by omega, by omega, by rw [z3, e]; rfl, z4, by rw [z5, e]; rfl, z6, z7⟩

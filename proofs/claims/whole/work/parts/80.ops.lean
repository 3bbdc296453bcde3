def mS7 (M : mm_M) (i q e : Nat) : mm_M := sI (sI (sI M 17 i 1) 21 q (M.1 21 q + 1)) 23 q (nI e)
def mS9 (M : mm_M) (i q e : Nat) : mm_M := sI (mS7 M i q e) 22 q (M.1 22 q + 1)
theorem settle_0 {C M : mm_M} {i q w e : Nat} (hi : i < 100) (hq : q < 240) (hw : w < 320) (ho : f_X10_ownerOf (nI i) C = some (nI q, C)) (hv : f_X10_visitOf (nI i) C = some (nI w, C)) (he : C.1 41 i = nI e) (hh : f_X5_holds 0 (nI e) (sI C 20 w (C.1 20 w + 1)) = some (nI 0, M)) : f_X10_settle (nI i) C = some (sI M 17 i 0) := by
  unfold f_X10_settle
  rw [ho, bi_, hv, bi_, if_neg (nI_pos (by omega)), if_pos (nI_pos' (by omega))]
  simp (disch := omega) only [mI, let_, bi_, bv_, ckI, clI, s1, s2, l1, l2, upd_at, Nat.reduceEqDiff, reduceIte, kk_0, kc_0, kk_1, kc_1, kk_2, kc_2, kk_3, kc_3, kk_6, kc_6, kk_7, kc_7, kk_10, kc_10, kk_12, kc_12, kk_13, kc_13, kk_14, kc_14, kk_15, kc_15, kk_18, kc_18, kk_24, kc_24, he, hh]
  simp only [show nI 0 &&& 1 = (0 : Int32) from rfl, reduceIte]
theorem settle_1 {C M : mm_M} {i q w e : Nat} (hi : i < 100) (hq : q < 240) (hw : w < 320) (ho : f_X10_ownerOf (nI i) C = some (nI q, C)) (hv : f_X10_visitOf (nI i) C = some (nI w, C)) (he : C.1 41 i = nI e) (hh : f_X5_holds 0 (nI e) (sI C 20 w (C.1 20 w + 1)) = some (nI 1, M)) {x : Int32} (hs : f_X9_isSold (nI i) (mS7 M i q e) = some (x, mS7 M i q e)) : f_X10_settle (nI i) C = if x = 0 then some (mS7 M i q e) else if 4 ≤ M.1 24 q then some (mS9 M i q e) else mm_bi (f_X5_holds (M.1 24 q + 1) (nI e) (mS9 M i q e)) (fun r5 M10 => if r5 = 0 then some M10 else some (sI (sI (sI M10 24 q (M10.1 24 q + 1)) 25 q (nI e)) 18 i (M10.1 24 q + 1))) := by
  unfold f_X10_settle
  rw [ho, bi_, hv, bi_, if_neg (nI_pos (by omega)), if_pos (nI_pos' (by omega))]
  simp (disch := omega) only [mI, let_, bi_, bv_, ckI, clI, s1, s2, l1, l2, upd_at, Nat.reduceEqDiff, reduceIte, kk_0, kc_0, kk_1, kc_1, kk_2, kc_2, kk_3, kc_3, kk_6, kc_6, kk_7, kc_7, kk_10, kc_10, kk_12, kc_12, kk_13, kc_13, kk_14, kc_14, kk_15, kc_15, kk_18, kc_18, kk_24, kc_24, he, hh]
  have e1' : nI 1 &&& 1 = (1 : Int32) := rfl
  simp only [e1', n10, reduceIte]
  have hs' : f_X9_isSold (nI i) (sI (sI (sI M 17 i 1) 21 q (M.1 21 q + 1)) 23 q (nI e)) = some (x, mS7 M i q e) := hs
  rw [hs', bi_]
  unfold mS9
  have e22 : (mS7 M i q e).1 22 = M.1 22 := by unfold mS7; simp only [s1, s2, l1, l2, upd_at, Nat.reduceEqDiff, reduceIte]
  have e24 : (mS7 M i q e).1 24 = M.1 24 := by unfold mS7; simp only [s1, s2, l1, l2, upd_at, Nat.reduceEqDiff, reduceIte]
  simp (disch := omega) only [mI, let_, bi_, bv_, ckI, clI, s1, s2, l1, l2, upd_at, Nat.reduceEqDiff, reduceIte, kk_0, kc_0, kk_1, kc_1, kk_2, kc_2, kk_3, kc_3, kk_6, kc_6, kk_7, kc_7, kk_10, kc_10, kk_12, kc_12, kk_13, kc_13, kk_14, kc_14, kk_15, kc_15, kk_18, kc_18, kk_24, kc_24, e22, e24]
theorem upd_same {f : Nat → Int32} {k : Nat} {v : Int32} (h : f k = v) : f = upd f k v := by
  funext j
  unfold upd
  by_cases e : j = k
  · rw [if_pos e, e]
    exact h
  · rw [if_neg e]
theorem NxC_of {C X : mm_M} {i w q g sd up gd st e : Nat} {x : Int32} (x17 : X.1 17 = upd (C.1 17) i (nI g)) (x18 : X.1 18 = upd (C.1 18) i (nI (if up = 0 then 0 else st + 1))) (x20 : X.1 20 = upd (C.1 20) w (C.1 20 w + 1)) (x21 : X.1 21 = upd (C.1 21) q (nI (gd + g))) (x22 : X.1 22 = upd (C.1 22) q (x + nI (g * sd))) (x23 : X.1 23 = upd (C.1 23) q (if g = 0 then C.1 23 q else nI e)) (x24 : X.1 24 = upd (C.1 24) q (nI (st + up))) (x25 : X.1 25 = upd (C.1 25) q (if up = 0 then C.1 25 q else nI e)) : NxC C X i w q g sd up gd st e x := by
  unfold NxC
  rw [x17, x18, x20, x21, x22, x23, x24, x25]
  exact ⟨fun j hj => ⟨if_neg hj, if_neg hj⟩, if_pos rfl, if_pos rfl, fun v hv => if_neg hv, if_pos rfl, fun o ho => ⟨if_neg ho, if_neg ho, if_neg ho, if_neg ho, if_neg ho⟩, if_pos rfl, if_pos rfl, if_pos rfl, if_pos rfl, if_pos rfl⟩
theorem NxR_of {C X : mm_M} {i q g sd up gd st e : Nat} {x : Int32} (x35 : X.1 35 = upd (C.1 35) i 1) (x36 : X.1 36 = upd (C.1 36) i (nI g)) (x37 : X.1 37 = upd (C.1 37) i (nI (if up = 0 then 0 else st + 1))) (x41 : X.1 41 = upd (C.1 41) q (nI (gd + g))) (x42 : X.1 42 = upd (C.1 42) q (x + nI (g * sd))) (x43 : X.1 43 = upd (C.1 43) q (if g = 0 then C.1 43 q else nI e)) (x39 : X.1 39 = upd (C.1 39) q (nI (st + up))) (x40 : X.1 40 = upd (C.1 40) q (if up = 0 then C.1 40 q else nI e)) : NxR C X i q g sd up gd st e x := by
  unfold NxR
  rw [x35, x36, x37, x39, x40, x41, x42, x43]
  exact ⟨fun j hj => ⟨if_neg hj, if_neg hj, if_neg hj⟩, if_pos rfl, if_pos rfl, if_pos rfl, fun o ho => ⟨if_neg ho, if_neg ho, if_neg ho, if_neg ho, if_neg ho⟩, if_pos rfl, if_pos rfl, if_pos rfl, if_pos rfl, if_pos rfl⟩
/-- one test that counts, both sides -/
theorem one_ok {C R : mm_M} (h : Rel C R) {k : Int32} {n t i : Nat} (hn : R.1 0 2 = nI n) (hn4 : n ≤ 40) (ht : R.1 0 43 = nI t) (ht1 : t ≤ 100) (hi : i < t) (hJ : J k i C R) (hcb : cbF (R.1 33) (R.1 34) k i = 1) : ∃ C1 C' R', f_X10_gather (nI i) C = some C1 ∧ f_X10_settle (nI i) C1 = some C' ∧ f_X12_weighOne (nI i) (sI (sI (sI R 35 i 1) 36 i 0) 37 i 0) = some R' ∧ J k (i + 1) C' R' ∧ kC C C' ∧ kR R R' ∧ kC C C1 ∧ corr (C1.1 19) (fun y => R'.1 38 (13 * i + y)) ∧ (∀ j, j ≠ i → R'.1 35 j = R.1 35 j ∧ R'.1 36 j = R.1 36 j ∧ R'.1 37 j = R.1 37 j) ∧ ∀ x, (x < 13 * i ∨ 13 * i + 13 ≤ x) → R'.1 38 x = R.1 38 x := by
  obtain ⟨s, c, e, q, b, hr, o1, o2, o3⟩ := tRow_of h hn hn4 ht ht1 hi
  have hr' := hr
  obtain ⟨t1, t2, t3, t4, t5, t6, t7, t8, t9, t10, t11⟩ := hr'
  have h' := h
  obtain ⟨⟨⟨bd, bn, bt, bu, bv, bw, bl⟩, ⟨sa, sb, sc, sd, se, sf, sg, sh⟩, ⟨ka, kb, kc, kd, ke⟩, ⟨ta, tb, tc, td, te, tf, tg⟩, ⟨ra, rb, rc, rd, re_, rf⟩, ⟨qa, qb, qc, qd, qe⟩⟩, hr0, hl, hw, d', n', t', u', v', w', ⟨_, jS, jK, _⟩, _⟩ := h'
  have hq : q < 240 := by omega
  have hs40 : s < 40 := by omega
  have hi1 : i < 100 := by omega
  obtain ⟨_, _, ⟨kk, kk1, kk2, kk3⟩, _⟩ := jK c t4
  -- the reference's rows cleared
  have kR2 : kR R (sI (sI (sI R 35 i 1) 36 i 0) 37 i 0) := kR_t (kR_sI _ 35 _ _ rfl (by omega)) (kR_t (kR_sI _ 36 _ _ rfl (by omega)) (kR_sI _ 37 _ _ rfl (by omega)))
  have q35 : ∀ j, (sI (sI (sI R 35 i 1) 36 i 0) 37 i 0).1 35 j = if j = i then 1 else R.1 35 j := fun j => by simp only [s1, s2, l1, l2, upd_at, Nat.reduceEqDiff, reduceIte]
  have q36 : ∀ j, (sI (sI (sI R 35 i 1) 36 i 0) 37 i 0).1 36 j = if j = i then 0 else R.1 36 j := fun j => by simp only [s1, s2, l1, l2, upd_at, Nat.reduceEqDiff, reduceIte]
  have q37 : ∀ j, (sI (sI (sI R 35 i 1) 36 i 0) 37 i 0).1 37 j = if j = i then 0 else R.1 37 j := fun j => by simp only [s1, s2, l1, l2, upd_at, Nat.reduceEqDiff, reduceIte]
  have q38 : (sI (sI (sI R 35 i 1) 36 i 0) 37 i 0).1 38 = R.1 38 := by simp only [s1, s2, l1, l2, upd_at, Nat.reduceEqDiff, reduceIte]
  have q39 : (sI (sI (sI R 35 i 1) 36 i 0) 37 i 0).1 39 = R.1 39 := by simp only [s1, s2, l1, l2, upd_at, Nat.reduceEqDiff, reduceIte]
  have q40 : (sI (sI (sI R 35 i 1) 36 i 0) 37 i 0).1 40 = R.1 40 := by simp only [s1, s2, l1, l2, upd_at, Nat.reduceEqDiff, reduceIte]
  have q41 : (sI (sI (sI R 35 i 1) 36 i 0) 37 i 0).1 41 = R.1 41 := by simp only [s1, s2, l1, l2, upd_at, Nat.reduceEqDiff, reduceIte]
  have q42 : (sI (sI (sI R 35 i 1) 36 i 0) 37 i 0).1 42 = R.1 42 := by simp only [s1, s2, l1, l2, upd_at, Nat.reduceEqDiff, reduceIte]
  have q43 : (sI (sI (sI R 35 i 1) 36 i 0) 37 i 0).1 43 = R.1 43 := by simp only [s1, s2, l1, l2, upd_at, Nat.reduceEqDiff, reduceIte]
  generalize sI (sI (sI R 35 i 1) 36 i 0) 37 i 0 = R2 at kR2 q35 q36 q37 q38 q39 q40 q41 q42 q43 ⊢
  -- facts
  obtain ⟨C1, g1, g2, g3, g4, g5, g6, g7, g8, g9, g10, g11, g12, g13, g14, g15⟩ := gather_ok (C := C) (k := kk) hi1 hs40 t4 t11 hq (by rw [ta]; exact t1) (by rw [tb]; exact t3) (by rw [tc]; exact t5) (by rw [te]; exact t10) o1 o3 (by rw [kc]; exact kk1) kk3
  obtain ⟨R3, f1, f2, f3, f4, f5, f6, f7, f8, f9, f10, f11, f12, f13, f14, f15, f16, f17⟩ := facts_ok (R := R2) (k := kk) hi1 hs40 t4 hq (by rw [kR2.1 28 rfl]; exact t1) (by rw [kR2.1 29 rfl]; exact t3) (by rw [kR2.1 30 rfl]; exact t5) (by rw [kR2.1 32 rfl]; exact t10) (by rw [kR2.1 11 rfl]; exact kk1) kk3
  obtain ⟨a1, a2, a3, ⟨st, st1, st2, st3⟩, ⟨gd, gd1, gd2, gd3⟩, a6, a7, a8⟩ := hJ.1 q hq
  have hvc : vcF (R2.1 35) (R2.1 29) (R2.1 28) (nI c) (nI s) i = vcF (R.1 35) (R.1 29) (R.1 28) (nI c) (nI s) i := vcF_eq (fun j hj => ⟨by rw [q35, if_neg (by omega)], by rw [kR2.1 29 rfl], by rw [kR2.1 28 rfl]⟩)
  have hcorr : corr (C1.1 19) (R3.1 25) := by
    refine ⟨?_, ?_, ?_, ?_, ?_, ?_, ?_, ?_, ?_, ?_, ?_, ?_, ?_⟩
    · rw [g3, f5, kb, kR2.1 10 rfl]
    · rw [g4, f6, kd, kc, kb, kR2.1 12 rfl, kR2.1 11 rfl, kR2.1 10 rfl]
    · rw [g5, f7]
    · rw [g6, f14, q41, q43]
      rcases a6 with ⟨z1, z2⟩ | ⟨z1, z2, z3⟩
      · rw [if_pos z1, if_pos z2]
      · rw [if_neg z1, if_neg z2, z3]
    · rw [g7, f8]
    · rw [g8, f9, td, kR2.1 31 rfl]
    · rw [g9, f10, hvc, hJ.2.1 c s t4 hs40]
    · rw [g10, f17, q39, q40]
      rcases a7 with ⟨z1, z2⟩ | ⟨z1, z2, z3⟩
      · rw [if_pos z1, if_pos z2]
      · rw [if_neg z1, if_neg z2, z3]
    · rw [g11, f11, ke, kR2.1 13 rfl]
    · rw [g12, f12, a1, q41]
    · rw [g13, f13, a2, q42]
    · rw [g14, f15]
    · rw [g15, f16, a3, q39]
  have kC1 : kC C C1 := kC_19 g2
  have kR3 : kR R R3 := kR_t kR2 ⟨fun a ha => f2 a (neR ha rfl) (neR ha rfl), fun j hj => by rw [f2 0 (by omega) (by omega)]⟩
  have hrel3 : Rel C1 R3 := rel_k h kC1 kR3
  have hn3 : R3.1 0 2 = nI n := by rw [kR3.2 2 rfl]; exact hn
  have ht3 : R3.1 0 43 = nI t := by rw [kR3.2 43 rfl]; exact ht
  obtain ⟨w1, w2, w3⟩ := tRow_use hrel3 hn3 hn4 ht3 ht1 hi (tRow_k kR3 hr)
  have hw320 : 40 * c + s < 320 := by omega
  have he41 : C1.1 41 i = nI e := by rw [g2 41 (by omega), tc]; exact t5
  -- the first rule
  have kM3 : kC C1 (sI C1 20 (40 * c + s) (C1.1 20 (40 * c + s) + 1)) := kC_sI _ 20 _ _ rfl
  have hrelM3 : Rel (sI C1 20 (40 * c + s) (C1.1 20 (40 * c + s) + 1)) R3 := rel_k hrel3 kM3 (kR_r R3)
  have hfirst : ∃ g M4 R4, g ≤ 1 ∧ f_X5_holds 0 (nI e) (sI C1 20 (40 * c + s) (C1.1 20 (40 * c + s) + 1)) = some (nI g, M4) ∧ (∀ a, a ≠ 50 → M4.1 a = (sI C1 20 (40 * c + s) (C1.1 20 (40 * c + s) + 1)).1 a) ∧ kpH R3 R4 ∧ f_X12_weighOne (nI i) R2 = f_X12_weighOne_57 (nI i) (nI e) (nI q) (nI i) (nI g) R4 := by
    have hone : ∀ X : Option mm_M, (mm_bi (f_X12_ruleOn 0 (nI e) R3) (fun r2 M3 => if r2 < 0 then f_X12_weighOne_52 (nI i) (nI e) (nI q) (nI i) M3 else mm_bi (f_X12_holds r2 M3) (fun r3 M4 => if r3 = 0 then f_X12_weighOne_57 (nI i) (nI e) (nI q) (nI i) (0 : Int32) M4 else f_X12_weighOne_52 (nI i) (nI e) (nI q) (nI i) M4))) = X → f_X12_weighOne (nI i) R2 = X := by
      intro X hX
      rw [← hX]
      obtain ⟨_, y2, _⟩ := tRow_use (rel_k h (kC_r C) kR2) (by rw [kR2.2 2 rfl]; exact hn) hn4 (by rw [kR2.2 43 rfl]; exact ht) ht1 hi (tRow_k kR2 hr)
      have y30 : R2.1 30 i = nI e := by rw [kR2.1 30 rfl]; exact t5
      unfold f_X12_weighOne
      rw [y30] at y2
      simp (disch := omega) only [mI, let_, bi_, bv_, ckI, clI, s1, s2, l1, l2, upd_at, Nat.reduceEqDiff, reduceIte, kk_0, kc_0, kk_1, kc_1, kk_2, kc_2, kk_3, kc_3, kk_6, kc_6, kk_7, kc_7, kk_10, kc_10, kk_12, kc_12, kk_13, kc_13, kk_14, kc_14, kk_15, kc_15, kk_18, kc_18, kk_24, kc_24, y30]
      rw [y2, bi_, f1, bv_]
    rcases hold2 hrelM3 (by simp only [s1, s2, l1, l2, upd_at, Nat.reduceEqDiff, reduceIte]; exact hcorr) 0 (nI e) with ⟨z1, z2⟩ | ⟨p, b', C', R', z1, z2, z3, z4, z5, z6, z7⟩
    · refine ⟨1, _, R3, by omega, z1, fun _ _ => rfl, kpH_r R3, hone _ ?_⟩
      rw [z2, bi_, if_pos m1lt]
      rfl
    · refine ⟨b', C', R', z2, z3, z6, z7, hone _ ?_⟩
      rw [z4, bi_, if_neg (nI_pos (by omega)), z5, bi_]
      rcases (show b' = 0 ∨ b' = 1 by omega) with y | y
      · rw [y, if_pos (show nI 0 = 0 from rfl)]
        rfl
      · rw [y, if_neg (show ¬ nI 1 = 0 from n10)]
        rfl
  obtain ⟨g, M4, R4, hg, hh, m4, r4, hone⟩ := hfirst
  have c4 : ∀ a, a ≠ 19 → a ≠ 20 → a ≠ 50 → M4.1 a = C.1 a := fun a x1 x2 x3 => by rw [m4 a x3]; simp only [s1, s2, l1, l2, upd_at, Nat.reduceEqDiff, reduceIte, x2]; exact g2 a x1
  have c4' : ∀ v, M4.1 20 v = if v = 40 * c + s then C.1 20 (40 * c + s) + 1 else C.1 20 v := fun v => by rw [m4 20 (by omega)]; simp only [s1, s2, l1, l2, upd_at, Nat.reduceEqDiff, reduceIte]; rw [g2 20 (by omega)]
  have p4 : ∀ a, a ≠ 0 → a ≠ 24 → a ≠ 25 → a ≠ 26 → a ≠ 27 → a ≠ 38 → R4.1 a = R2.1 a := fun a x1 x2 x3 x4 x5 x6 => by rw [r4.1 a x1 x2 x4 x5]; exact f2 a x3 x6
  have k4 : kC C M4 := kC_t kC1 (kC_t kM3 (kC_50 m4))
  have kr4 : kR R R4 := kR_t kR3 (kR_H r4)
  have p38 : R4.1 38 = R3.1 38 := r4.1 38 (by omega) (by omega) (by omega) (by omega)
  have p25 : R4.1 25 = R3.1 25 := r4.1 25 (by omega) (by omega) (by omega) (by omega)
  have x38 : ∀ x, (x < 13 * i ∨ 13 * i + 13 ≤ x) → R4.1 38 x = R.1 38 x := fun x hx => by rw [p38, f3 x hx, q38]
  have corr' : corr (C1.1 19) (fun y => R4.1 38 (13 * i + y)) := by
    obtain ⟨y1, y2, y3, y4, y5, y6, y7, y8, y9, y10, y11, y12, y13⟩ := hcorr
    rw [f4 0 (by omega)] at y1
    rw [f4 1 (by omega)] at y2
    rw [f4 2 (by omega)] at y3
    rw [f4 9 (by omega)] at y4
    rw [f4 3 (by omega)] at y5
    rw [f4 4 (by omega)] at y6
    rw [f4 5 (by omega)] at y7
    rw [f4 12 (by omega)] at y8
    rw [f4 6 (by omega)] at y9
    rw [f4 7 (by omega)] at y10
    rw [f4 8 (by omega)] at y11
    rw [f4 10 (by omega)] at y12
    rw [f4 11 (by omega)] at y13
    show corr (C1.1 19) (fun y => R4.1 38 (13 * i + y))
    rw [p38]
    exact ⟨y1, y2, y3, y4, y5, y6, y7, y8, y9, y10, y11, y12, y13⟩
  have e21 : C.1 21 q = nI gd := a1.trans gd1
  have e24 : C.1 24 q = nI st := a3.trans st1
  have e18 : C.1 18 i = 0 := (hJ.2.2.2 i (Nat.le_refl i) hi1).2
  have r35 : R4.1 35 = upd (R.1 35) i 1 := by
    rw [p4 35 (by omega) (by omega) (by omega) (by omega) (by omega) (by omega)]
    funext j
    exact q35 j
  have r36 : R4.1 36 = upd (R.1 36) i 0 := by
    rw [p4 36 (by omega) (by omega) (by omega) (by omega) (by omega) (by omega)]
    funext j
    exact q36 j
  have r37 : R4.1 37 = upd (R.1 37) i 0 := by
    rw [p4 37 (by omega) (by omega) (by omega) (by omega) (by omega) (by omega)]
    funext j
    exact q37 j
  have r39 : R4.1 39 = R.1 39 := by rw [p4 39 (by omega) (by omega) (by omega) (by omega) (by omega) (by omega), q39]
  have r40 : R4.1 40 = R.1 40 := by rw [p4 40 (by omega) (by omega) (by omega) (by omega) (by omega) (by omega), q40]
  have r41 : R4.1 41 = R.1 41 := by rw [p4 41 (by omega) (by omega) (by omega) (by omega) (by omega) (by omega), q41]
  have r42 : R4.1 42 = R.1 42 := by rw [p4 42 (by omega) (by omega) (by omega) (by omega) (by omega) (by omega), q42]
  have r43 : R4.1 43 = R.1 43 := by rw [p4 43 (by omega) (by omega) (by omega) (by omega) (by omega) (by omega), q43]
  have r32 : R4.1 32 i = nI b := by rw [p4 32 (by omega) (by omega) (by omega) (by omega) (by omega) (by omega), kR2.1 32 rfl]; exact t10
  have m20 : M4.1 20 = upd (C.1 20) (40 * c + s) (C.1 20 (40 * c + s) + 1) := by
    funext v
    exact c4' v
  have m17 : M4.1 17 = C.1 17 := c4 17 (by omega) (by omega) (by omega)
  have m18 : M4.1 18 = C.1 18 := c4 18 (by omega) (by omega) (by omega)
  have m21 : M4.1 21 = C.1 21 := c4 21 (by omega) (by omega) (by omega)
  have m22 : M4.1 22 = C.1 22 := c4 22 (by omega) (by omega) (by omega)
  have m23 : M4.1 23 = C.1 23 := c4 23 (by omega) (by omega) (by omega)
  have m24 : M4.1 24 = C.1 24 := c4 24 (by omega) (by omega) (by omega)
  have m25 : M4.1 25 = C.1 25 := c4 25 (by omega) (by omega) (by omega)
  have fin : ∀ (sd up : Nat) (C' R' : mm_M), f_X10_settle (nI i) C1 = some C' → f_X12_weighOne (nI i) R2 = some R' → NxC C C' i (40 * c + s) q g sd up gd st e (R.1 42 q) → NxR R R' i q g sd up gd st e (R.1 42 q) → up ≤ 1 → st + up ≤ 4 → kC C C' → kR R R' → R'.1 38 = R4.1 38 → ∃ C1 C' R', f_X10_gather (nI i) C = some C1 ∧ f_X10_settle (nI i) C1 = some C' ∧ f_X12_weighOne (nI i) R2 = some R' ∧ J k (i + 1) C' R' ∧ kC C C' ∧ kR R R' ∧ kC C C1 ∧ corr (C1.1 19) (fun y => R'.1 38 (13 * i + y)) ∧ (∀ j, j ≠ i → R'.1 35 j = R.1 35 j ∧ R'.1 36 j = R.1 36 j ∧ R'.1 37 j = R.1 37 j) ∧ ∀ x, (x < 13 * i ∨ 13 * i + 13 ≤ x) → R'.1 38 x = R.1 38 x := by
    intro sd up C' R' y1 y2 y3 y4 y5 y6 y7 y8 y9
    exact ⟨C1, C', R', g1, y1, y2, J_next hJ hi1 hn4 hr y8 hcb y3 y4 hg y5 y6 gd1 st1 rfl gd3, y7, y8, kC1, by rw [y9]; exact corr', y4.1, fun x hx => by rw [y9]; exact x38 x hx⟩
  have kr36 : ∀ v, kR R (sI R4 36 i v) := fun v => kR_t kr4 (kR_sI _ 36 _ _ rfl (by omega))
  rcases (show g = 0 ∨ g = 1 by omega) with eg | eg
  · subst eg
    refine fin 0 0 _ (sI R4 36 i 0) (settle_0 hi1 hq hw320 w1 w3 he41 hh) ?_ ?_ ?_ (by omega) (by omega) (kC_t k4 (kC_sI _ 17 _ _ rfl)) (kr36 0) (by simp only [s1, s2, l1, l2, upd_at, Nat.reduceEqDiff, reduceIte])
    · rw [hone]
      unfold f_X12_weighOne_57
      simp (disch := omega) only [mI, let_, bi_, bv_, ckI, clI, s1, s2, l1, l2, upd_at, Nat.reduceEqDiff, reduceIte, kk_0, kc_0, kk_1, kc_1, kk_2, kc_2, kk_3, kc_3, kk_6, kc_6, kk_7, kc_7, kk_10, kc_10, kk_12, kc_12, kk_13, kc_13, kk_14, kc_14, kk_15, kc_15, kk_18, kc_18, kk_24, kc_24]
      simp only [show nI 0 &&& 1 = (0 : Int32) from rfl, reduceIte]
    · refine NxC_of ?_ ?_ ?_ ?_ ?_ ?_ ?_ ?_
      · simp only [s1, s2, l1, l2, upd_at, Nat.reduceEqDiff, reduceIte, m17]; rfl
      · simp only [s1, s2, l1, l2, upd_at, Nat.reduceEqDiff, reduceIte, m18]; exact upd_same e18
      · simp only [s1, s2, l1, l2, upd_at, Nat.reduceEqDiff, reduceIte, m20]
      · simp only [s1, s2, l1, l2, upd_at, Nat.reduceEqDiff, reduceIte, m21]; exact upd_same e21
      · simp only [s1, s2, l1, l2, upd_at, Nat.reduceEqDiff, reduceIte, m22]; exact upd_same (a2.trans (Int32.add_zero _).symm)
      · simp only [s1, s2, l1, l2, upd_at, Nat.reduceEqDiff, reduceIte, m23]; exact upd_same rfl
      · simp only [s1, s2, l1, l2, upd_at, Nat.reduceEqDiff, reduceIte, m24]; exact upd_same e24
      · simp only [s1, s2, l1, l2, upd_at, Nat.reduceEqDiff, reduceIte, m25]; exact upd_same rfl
    · refine NxR_of ?_ ?_ ?_ ?_ ?_ ?_ ?_ ?_
      · simp only [s1, s2, l1, l2, upd_at, Nat.reduceEqDiff, reduceIte, r35]
      · simp only [s1, s2, l1, l2, upd_at, Nat.reduceEqDiff, reduceIte, r36]
        funext j
        unfold upd
        split <;> rfl
      · simp only [s1, s2, l1, l2, upd_at, Nat.reduceEqDiff, reduceIte, r37]; rfl
      · simp only [s1, s2, l1, l2, upd_at, Nat.reduceEqDiff, reduceIte, r41]; exact upd_same gd1
      · simp only [s1, s2, l1, l2, upd_at, Nat.reduceEqDiff, reduceIte, r42]; exact upd_same (Int32.add_zero _).symm
      · simp only [s1, s2, l1, l2, upd_at, Nat.reduceEqDiff, reduceIte, r43]; exact upd_same rfl
      · simp only [s1, s2, l1, l2, upd_at, Nat.reduceEqDiff, reduceIte, r39]; exact upd_same st1
      · simp only [s1, s2, l1, l2, upd_at, Nat.reduceEqDiff, reduceIte, r40]; exact upd_same rfl
  · subst eg
    have k7 : kC C (mS7 M4 i q e) := kC_t k4 (kC_t (kC_sI _ 17 _ _ rfl) (kC_t (kC_sI _ 21 _ _ rfl) (kC_sI _ 23 _ _ rfl)))
    have k9 : kC C (mS9 M4 i q e) := kC_t k7 (kC_sI _ 22 _ _ rfl)
    have hc7 : (mS7 M4 i q e).1 4 7 = nI t := by rw [k7 4 rfl, bt]; exact ht
    have hsold := sold_c (C := mS7 M4 i q e) hc7 ht1 hi (b := b) (by rw [k7 43 rfl, te]; exact t10)
    have hset := settle_1 hi1 hq hw320 w1 w3 he41 hh hsold
    have r36' : (sI R4 36 i 1).1 36 = upd (R.1 36) i 1 := by
      simp only [s1, s2, l1, l2, upd_at, Nat.reduceEqDiff, reduceIte, r36]
      funext j
      unfold upd
      split <;> rfl
    have k5R : kR R (sI R4 36 i 1) := kr36 1
    have hone' : f_X12_weighOne (nI i) R2 = if nI b / 4 = 1 then f_X12_weighOne_85 (nI i) (nI e) (nI q) 1 (sI R4 36 i 1) else f_X12_weighOne_85 (nI i) (nI e) (nI q) 0 (sI R4 36 i 1) := by
      rw [hone]
      unfold f_X12_weighOne_57
      simp (disch := omega) only [mI, let_, bi_, bv_, ckI, clI, s1, s2, l1, l2, upd_at, Nat.reduceEqDiff, reduceIte, kk_0, kc_0, kk_1, kc_1, kk_2, kc_2, kk_3, kc_3, kk_6, kc_6, kk_7, kc_7, kk_10, kc_10, kk_12, kc_12, kk_13, kc_13, kk_14, kc_14, kk_15, kc_15, kk_18, kc_18, kk_24, kc_24, r32]
      have e1' : nI 1 &&& 1 = (1 : Int32) := rfl
      simp only [e1', n10, reduceIte]
    have m7_17 : (mS7 M4 i q e).1 17 = upd (C.1 17) i 1 := by unfold mS7; simp only [s1, s2, l1, l2, upd_at, Nat.reduceEqDiff, reduceIte, m17]
    have m7_21 : (mS7 M4 i q e).1 21 = upd (C.1 21) q (nI (gd + 1)) := by unfold mS7; simp only [s1, s2, l1, l2, upd_at, Nat.reduceEqDiff, reduceIte, m21, e21, add1]
    have m7_23 : (mS7 M4 i q e).1 23 = upd (C.1 23) q (nI e) := by unfold mS7; simp only [s1, s2, l1, l2, upd_at, Nat.reduceEqDiff, reduceIte, m23]
    have m7_o : ∀ a, a ≠ 17 → a ≠ 21 → a ≠ 23 → (mS7 M4 i q e).1 a = M4.1 a := fun a x1 x2 x3 => by unfold mS7; simp only [s1, s2, l1, l2, upd_at, Nat.reduceEqDiff, reduceIte, x1, x2, x3]
    have rows7 : ∀ (R' : mm_M) (x5 : Int32) (sd : Nat), (x5 = nI sd) → sd ≤ 1 → R' = sI (sI (sI (sI R4 36 i 1) 41 q ((sI R4 36 i 1).1 41 q + 1)) 42 q ((sI R4 36 i 1).1 42 q + (if x5 = 0 then 0 else 1))) 43 q (nI e) → NxR R R' i q 1 sd 0 gd st e (R.1 42 q) ∧ kR R R' ∧ R'.1 38 = R4.1 38 := by
      intro R' x5 sd hx hsd hR'
      subst hR'
      refine ⟨NxR_of ?_ ?_ ?_ ?_ ?_ ?_ ?_ ?_, kR_t k5R (kR_t (kR_sI _ 41 _ _ rfl (by omega)) (kR_t (kR_sI _ 42 _ _ rfl (by omega)) (kR_sI _ 43 _ _ rfl (by omega)))), by simp only [s1, s2, l1, l2, upd_at, Nat.reduceEqDiff, reduceIte]⟩
      · simp only [s1, s2, l1, l2, upd_at, Nat.reduceEqDiff, reduceIte, r35]
      · simp only [s1, s2, l1, l2, upd_at, Nat.reduceEqDiff, reduceIte] at r36' ⊢; exact r36'
      · simp only [s1, s2, l1, l2, upd_at, Nat.reduceEqDiff, reduceIte, r37]; rfl
      · simp only [s1, s2, l1, l2, upd_at, Nat.reduceEqDiff, reduceIte, r41, gd1, add1]
      · simp only [s1, s2, l1, l2, upd_at, Nat.reduceEqDiff, reduceIte, r42]
        congr 2
        rcases (show sd = 0 ∨ sd = 1 by omega) with y | y
        · rw [hx, y]; rfl
        · rw [hx, y]; rfl
      · simp only [s1, s2, l1, l2, upd_at, Nat.reduceEqDiff, reduceIte, r43]
        try congr 1
      · simp only [s1, s2, l1, l2, upd_at, Nat.reduceEqDiff, reduceIte, r39]; exact upd_same st1
      · simp only [s1, s2, l1, l2, upd_at, Nat.reduceEqDiff, reduceIte, r40]; exact upd_same rfl
    rcases bit4 t11 with ⟨z1, z2⟩ | ⟨z1, z2⟩
    · -- not sold
      rw [z1, if_pos rfl, if_pos rfl] at hset
      rw [z2, if_neg (by decide +kernel)] at hone'
      obtain ⟨y1, y2, y3⟩ := rows7 _ 0 0 rfl (by omega) rfl
      refine fin 0 0 _ _ hset ?_ ?_ y1 (by omega) (by omega) k7 y2 y3
      · rw [hone']
        unfold f_X12_weighOne_85 f_X12_weighOne_118 f_X12_weighOne_119
        rw [ckI hq (by omega), if_pos rfl, if_pos m1lt, one164 hq]
        split <;> rfl
      · refine NxC_of m7_17 ?_ ?_ m7_21 ?_ m7_23 ?_ ?_
        · rw [m7_o 18 (by omega) (by omega) (by omega), m18]; exact upd_same e18
        · rw [m7_o 20 (by omega) (by omega) (by omega), m20]
        · rw [m7_o 22 (by omega) (by omega) (by omega), m22]; exact upd_same (a2.trans (Int32.add_zero _).symm)
        · rw [m7_o 24 (by omega) (by omega) (by omega), m24]; exact upd_same e24
        · rw [m7_o 25 (by omega) (by omega) (by omega), m25]; exact upd_same rfl
    · -- sold
      rw [if_neg z1, if_neg n10, m24, e24] at hset
      rw [z2, if_pos rfl] at hone'
      have m9_22 : (mS9 M4 i q e).1 22 = upd (C.1 22) q (R.1 42 q + nI (1 * 1)) := by
        unfold mS9
        simp only [s1, s2, l1, l2, upd_at, Nat.reduceEqDiff, reduceIte]
        rw [m7_o 22 (by omega) (by omega) (by omega), m22, a2]
        rfl
      have m9_o : ∀ a, a ≠ 22 → (mS9 M4 i q e).1 a = (mS7 M4 i q e).1 a := fun a x1 => by unfold mS9; simp only [s1, s2, l1, l2, upd_at, Nat.reduceEqDiff, reduceIte, x1]
      -- no step up: the class's memory X is mS9's but for the stack
      have noup : ∀ X : mm_M, (∀ a, a ≠ 50 → X.1 a = (mS9 M4 i q e).1 a) → NxC C X i (40 * c + s) q 1 1 0 gd st e (R.1 42 q) ∧ kC C X := by
        intro X hX
        refine ⟨NxC_of ?_ ?_ ?_ ?_ ?_ ?_ ?_ ?_, kC_t k9 (kC_50 hX)⟩
        · rw [hX 17 (by omega), m9_o 17 (by omega)]; exact m7_17
        · rw [hX 18 (by omega), m9_o 18 (by omega), m7_o 18 (by omega) (by omega) (by omega), m18]; exact upd_same e18
        · rw [hX 20 (by omega), m9_o 20 (by omega), m7_o 20 (by omega) (by omega) (by omega), m20]
        · rw [hX 21 (by omega), m9_o 21 (by omega)]; exact m7_21
        · rw [hX 22 (by omega)]; exact m9_22
        · rw [hX 23 (by omega), m9_o 23 (by omega)]; exact m7_23
        · rw [hX 24 (by omega), m9_o 24 (by omega), m7_o 24 (by omega) (by omega) (by omega), m24]; exact upd_same e24
        · rw [hX 25 (by omega), m9_o 25 (by omega), m7_o 25 (by omega) (by omega) (by omega), m25]; exact upd_same rfl
      have r39' : (sI R4 36 i 1).1 39 q = nI st := by simp only [s1, s2, l1, l2, upd_at, Nat.reduceEqDiff, reduceIte, r39]; exact st1
      by_cases h4 : 4 ≤ st
      · rw [if_pos (show (4 : Int32) ≤ nI st from nI_le (a := 4) h4 (by omega))] at hset
        obtain ⟨y1, y2, y3⟩ := rows7 _ 1 1 rfl (by omega) rfl
        obtain ⟨x1, x2⟩ := noup _ (fun _ _ => rfl)
        refine fin 1 0 _ _ hset ?_ x1 y1 (by omega) (by omega) x2 y2 y3
        rw [hone']
        unfold f_X12_weighOne_85 f_X12_weighOne_118 f_X12_weighOne_119 mI
        rw [ckI hq (by omega), clI (by omega), r39', if_pos (show (4 : Int32) ≤ nI st from nI_le (a := 4) h4 (by omega)), if_pos m1lt, one164 hq]
      · rw [if_neg (show ¬ (4 : Int32) ≤ nI st from nI_ge (b := 4) (by omega) (by omega)), add1] at hset
        have hrel9 : Rel (mS9 M4 i q e) (sI R4 36 i 1) := rel_k h k9 k5R
        have h85 : ∀ X : Option mm_M, (mm_bi (f_X12_ruleOn (nI (st + 1)) (nI e) (sI R4 36 i 1)) (fun r1 M1 => f_X12_weighOne_119 (nI i) (nI e) (nI q) 1 r1 M1)) = X → f_X12_weighOne (nI i) R2 = X := by
          intro X hX
          rw [hone', ← hX]
          unfold f_X12_weighOne_85 mI
          rw [ckI hq (by omega), clI (by omega), r39', if_neg (show ¬ (4 : Int32) ≤ nI st from nI_ge (b := 4) (by omega) (by omega)), if_neg n10, ckI hq (by omega), add1]
        have hcorr9 : corr ((mS9 M4 i q e).1 19) ((sI R4 36 i 1).1 25) := by
          rw [m9_o 19 (by omega), m7_o 19 (by omega) (by omega) (by omega), m4 19 (by omega)]
          simp only [s1, s2, l1, l2, upd_at, Nat.reduceEqDiff, reduceIte]
          rw [p25]
          exact hcorr
        rcases hold2 hrel9 hcorr9 (nI (st + 1)) (nI e) with ⟨u1, u2⟩ | ⟨p, b', C', R', u1, u2, u3, u4, u5, u6, u7⟩
        · rw [if_neg (nI_ne0 (by omega) (by omega))] at u1
          rw [u1, bi_, if_pos rfl] at hset
          obtain ⟨y1, y2, y3⟩ := rows7 _ 1 1 rfl (by omega) rfl
          obtain ⟨x1, x2⟩ := noup _ (fun _ _ => rfl)
          refine fin 1 0 _ _ hset (h85 _ ?_) x1 y1 (by omega) (by omega) x2 y2 y3
          rw [u2, bi_]
          unfold f_X12_weighOne_119
          rw [if_pos m1lt, one164 hq]
        · rw [u3, bi_] at hset
          have v5 : ∀ a, a ≠ 0 → a ≠ 24 → a ≠ 26 → a ≠ 27 → R'.1 a = (sI R4 36 i 1).1 a := u7.1
          have kR' : kR R R' := kR_t k5R (kR_H u7)
          rcases (show b' = 0 ∨ b' = 1 by omega) with eb | eb
          · rw [eb, if_pos (show nI 0 = 0 from rfl)] at hset
            obtain ⟨x1, x2⟩ := noup _ u6
            refine fin 1 0 _ (sI (sI (sI R' 41 q (R'.1 41 q + 1)) 42 q (R'.1 42 q + 1)) 43 q (nI e)) hset (h85 _ ?_) x1 ?_ (by omega) (by omega) x2 ?_ ?_
            · rw [u4, bi_]
              unfold f_X12_weighOne_119
              rw [if_neg (nI_pos (by omega)), u5, bi_, eb, if_pos (show nI 0 = 0 from rfl), one164 hq, if_neg n10]
            · refine NxR_of ?_ ?_ ?_ ?_ ?_ ?_ ?_ ?_
              · simp only [s1, s2, l1, l2, upd_at, Nat.reduceEqDiff, reduceIte]; rw [v5 35 (by omega) (by omega) (by omega) (by omega)]; simp only [s1, s2, l1, l2, upd_at, Nat.reduceEqDiff, reduceIte, r35]
              · simp only [s1, s2, l1, l2, upd_at, Nat.reduceEqDiff, reduceIte]; rw [v5 36 (by omega) (by omega) (by omega) (by omega)]; exact r36'
              · simp only [s1, s2, l1, l2, upd_at, Nat.reduceEqDiff, reduceIte]; rw [v5 37 (by omega) (by omega) (by omega) (by omega)]; simp only [s1, s2, l1, l2, upd_at, Nat.reduceEqDiff, reduceIte, r37]; rfl
              · simp only [s1, s2, l1, l2, upd_at, Nat.reduceEqDiff, reduceIte]; rw [v5 41 (by omega) (by omega) (by omega) (by omega)]; simp only [s1, s2, l1, l2, upd_at, Nat.reduceEqDiff, reduceIte, r41, gd1, add1]
              · simp only [s1, s2, l1, l2, upd_at, Nat.reduceEqDiff, reduceIte]; rw [v5 42 (by omega) (by omega) (by omega) (by omega)]; simp only [s1, s2, l1, l2, upd_at, Nat.reduceEqDiff, reduceIte, r42]; rfl
              · simp only [s1, s2, l1, l2, upd_at, Nat.reduceEqDiff, reduceIte]; rw [v5 43 (by omega) (by omega) (by omega) (by omega)]; simp only [s1, s2, l1, l2, upd_at, Nat.reduceEqDiff, reduceIte, r43]; try congr 1
              · simp only [s1, s2, l1, l2, upd_at, Nat.reduceEqDiff, reduceIte]; rw [v5 39 (by omega) (by omega) (by omega) (by omega)]; simp only [s1, s2, l1, l2, upd_at, Nat.reduceEqDiff, reduceIte, r39]; exact upd_same st1
              · simp only [s1, s2, l1, l2, upd_at, Nat.reduceEqDiff, reduceIte]; rw [v5 40 (by omega) (by omega) (by omega) (by omega)]; simp only [s1, s2, l1, l2, upd_at, Nat.reduceEqDiff, reduceIte, r40]; exact upd_same rfl
            · exact kR_t kR' (kR_t (kR_sI _ 41 _ _ rfl (by omega)) (kR_t (kR_sI _ 42 _ _ rfl (by omega)) (kR_sI _ 43 _ _ rfl (by omega))))
            · simp only [s1, s2, l1, l2, upd_at, Nat.reduceEqDiff, reduceIte]; rw [v5 38 (by omega) (by omega) (by omega) (by omega)]; simp only [s1, s2, l1, l2, upd_at, Nat.reduceEqDiff, reduceIte]
          · rw [eb, if_neg (show ¬ nI 1 = 0 from n10)] at hset
            have c24 : C'.1 24 = C.1 24 := by rw [u6 24 (by omega), m9_o 24 (by omega), m7_o 24 (by omega) (by omega) (by omega), m24]
            rw [c24, e24, add1] at hset
            have s39 : R'.1 39 = R.1 39 := by rw [v5 39 (by omega) (by omega) (by omega) (by omega)]; simp only [s1, s2, l1, l2, upd_at, Nat.reduceEqDiff, reduceIte, r39]
            refine fin 1 1 _ (sI (sI (sI (sI (sI (sI R' 39 q (nI (st + 1))) 40 q (nI e)) 37 i (nI (st + 1))) 41 q (R'.1 41 q + 1)) 42 q (R'.1 42 q + 1)) 43 q (nI e)) hset (h85 _ ?_) ?_ ?_ (by omega) (by omega) ?_ ?_ ?_
            · rw [u4, bi_]
              unfold f_X12_weighOne_119
              rw [if_neg (nI_pos (by omega)), u5, bi_, eb, if_neg (show ¬ nI 1 = 0 from n10)]
              simp (disch := omega) only [mI, let_, bi_, bv_, ckI, clI, s1, s2, l1, l2, upd_at, Nat.reduceEqDiff, reduceIte, kk_0, kc_0, kk_1, kc_1, kk_2, kc_2, kk_3, kc_3, kk_6, kc_6, kk_7, kc_7, kk_10, kc_10, kk_12, kc_12, kk_13, kc_13, kk_14, kc_14, kk_15, kc_15, kk_18, kc_18, kk_24, kc_24, s39, st1]
              rw [add1, one164 hq, if_neg n10]
              simp only [s1, s2, l1, l2, upd_at, Nat.reduceEqDiff, reduceIte]
            · refine NxC_of ?_ ?_ ?_ ?_ ?_ ?_ ?_ ?_
              · simp only [s1, s2, l1, l2, upd_at, Nat.reduceEqDiff, reduceIte]; rw [u6 17 (by omega), m9_o 17 (by omega)]; exact m7_17
              · simp only [s1, s2, l1, l2, upd_at, Nat.reduceEqDiff, reduceIte]; rw [u6 18 (by omega), m9_o 18 (by omega), m7_o 18 (by omega) (by omega) (by omega), m18]; try rfl
              · simp only [s1, s2, l1, l2, upd_at, Nat.reduceEqDiff, reduceIte]; rw [u6 20 (by omega), m9_o 20 (by omega), m7_o 20 (by omega) (by omega) (by omega), m20]
              · simp only [s1, s2, l1, l2, upd_at, Nat.reduceEqDiff, reduceIte]; rw [u6 21 (by omega), m9_o 21 (by omega)]; exact m7_21
              · simp only [s1, s2, l1, l2, upd_at, Nat.reduceEqDiff, reduceIte]; rw [u6 22 (by omega)]; exact m9_22
              · simp only [s1, s2, l1, l2, upd_at, Nat.reduceEqDiff, reduceIte]; rw [u6 23 (by omega), m9_o 23 (by omega)]; exact m7_23
              · simp only [s1, s2, l1, l2, upd_at, Nat.reduceEqDiff, reduceIte]; rw [c24]
              · simp only [s1, s2, l1, l2, upd_at, Nat.reduceEqDiff, reduceIte]; rw [u6 25 (by omega), m9_o 25 (by omega), m7_o 25 (by omega) (by omega) (by omega), m25]; try rfl
            · refine NxR_of ?_ ?_ ?_ ?_ ?_ ?_ ?_ ?_
              · simp only [s1, s2, l1, l2, upd_at, Nat.reduceEqDiff, reduceIte]; rw [v5 35 (by omega) (by omega) (by omega) (by omega)]; simp only [s1, s2, l1, l2, upd_at, Nat.reduceEqDiff, reduceIte, r35]
              · simp only [s1, s2, l1, l2, upd_at, Nat.reduceEqDiff, reduceIte]; rw [v5 36 (by omega) (by omega) (by omega) (by omega)]; exact r36'
              · simp only [s1, s2, l1, l2, upd_at, Nat.reduceEqDiff, reduceIte]; rw [v5 37 (by omega) (by omega) (by omega) (by omega)]; simp only [s1, s2, l1, l2, upd_at, Nat.reduceEqDiff, reduceIte, r37]
                funext j
                unfold upd
                split <;> rfl
              · simp only [s1, s2, l1, l2, upd_at, Nat.reduceEqDiff, reduceIte]; rw [v5 41 (by omega) (by omega) (by omega) (by omega)]; simp only [s1, s2, l1, l2, upd_at, Nat.reduceEqDiff, reduceIte, r41, gd1, add1]
              · simp only [s1, s2, l1, l2, upd_at, Nat.reduceEqDiff, reduceIte]; rw [v5 42 (by omega) (by omega) (by omega) (by omega)]; simp only [s1, s2, l1, l2, upd_at, Nat.reduceEqDiff, reduceIte, r42]; rfl
              · simp only [s1, s2, l1, l2, upd_at, Nat.reduceEqDiff, reduceIte]; rw [v5 43 (by omega) (by omega) (by omega) (by omega)]; simp only [s1, s2, l1, l2, upd_at, Nat.reduceEqDiff, reduceIte, r43]; try congr 1
              · simp only [s1, s2, l1, l2, upd_at, Nat.reduceEqDiff, reduceIte]; rw [s39]
              · simp only [s1, s2, l1, l2, upd_at, Nat.reduceEqDiff, reduceIte]; rw [v5 40 (by omega) (by omega) (by omega) (by omega)]; simp only [s1, s2, l1, l2, upd_at, Nat.reduceEqDiff, reduceIte, r40]; try rfl
            · exact kC_t (kC_t k9 (kC_50 u6)) (kC_t (kC_sI _ 24 _ _ rfl) (kC_t (kC_sI _ 25 _ _ rfl) (kC_sI _ 18 _ _ rfl)))
            · exact kR_t kR' (kR_t (kR_sI _ 39 _ _ rfl (by omega)) (kR_t (kR_sI _ 40 _ _ rfl (by omega)) (kR_t (kR_sI _ 37 _ _ rfl (by omega)) (kR_t (kR_sI _ 41 _ _ rfl (by omega)) (kR_t (kR_sI _ 42 _ _ rfl (by omega)) (kR_sI _ 43 _ _ rfl (by omega)))))))
            · simp only [s1, s2, l1, l2, upd_at, Nat.reduceEqDiff, reduceIte]; rw [v5 38 (by omega) (by omega) (by omega) (by omega)]; simp only [s1, s2, l1, l2, upd_at, Nat.reduceEqDiff, reduceIte]

/-- the class weighs f tests, the reference all -/
theorem weigh_two {C R : mm_M} (h : Rel C R) (k : Int32) {n t f : Nat} (hn : R.1 0 2 = nI n) (hn4 : n ≤ 40) (ht : R.1 0 43 = nI t) (ht1 : t ≤ 100) (hf : f ≤ t) : ∃ C' R', f_X10_weigh k (nI f) C = some C' ∧ f_X12_weigh k R = some R' ∧ kC C C' ∧ kR R R' ∧ (∀ j, j < f → C'.1 17 j = R'.1 36 j ∧ C'.1 18 j = R'.1 37 j) ∧ (∀ j, j < t → R'.1 35 j = cbF (R.1 33) (R.1 34) k j ∧ (R'.1 36 j = 0 ∨ R'.1 36 j = 1) ∧ rng (R'.1 37 j) 0 4) ∧ (∀ o, o < 240 → C'.1 24 o = lsF (R'.1 37) (owT R) (nI o) f) ∧ (f < t → cbF (R.1 33) (R.1 34) k f = 1 → ∃ C1, f_X10_gather (nI f) C' = some C1 ∧ kC C' C1 ∧ corr (C1.1 19) (fun y => R'.1 38 (13 * f + y))) := by
  obtain ⟨C', R1, nR, g1, g2, g3, g4, g5, g6⟩ := weigh_ok h k hn hn4 ht ht1 hf
  have hrel := rel_k h g3 g4
  have hn1 : R1.1 0 2 = nI n := by rw [g4.2 2 rfl]; exact hn
  have ht1' : R1.1 0 43 = nI t := by rw [g4.2 43 rfl]; exact ht
  have fin : ∀ R' C2, f_X12_weigh_38 nR k (nI f) R1 = some R' → J k t C2 R' → kR R1 R' → (∀ j, j < f → R'.1 35 j = R1.1 35 j ∧ R'.1 36 j = R1.1 36 j ∧ R'.1 37 j = R1.1 37 j) → (f < t → cbF (R.1 33) (R.1 34) k f = 1 → ∃ C1, f_X10_gather (nI f) C' = some C1 ∧ kC C' C1 ∧ corr (C1.1 19) (fun y => R'.1 38 (13 * f + y))) → ∃ C' R', f_X10_weigh k (nI f) C = some C' ∧ f_X12_weigh k R = some R' ∧ kC C C' ∧ kR R R' ∧ (∀ j, j < f → C'.1 17 j = R'.1 36 j ∧ C'.1 18 j = R'.1 37 j) ∧ (∀ j, j < t → R'.1 35 j = cbF (R.1 33) (R.1 34) k j ∧ (R'.1 36 j = 0 ∨ R'.1 36 j = 1) ∧ rng (R'.1 37 j) 0 4) ∧ (∀ o, o < 240 → C'.1 24 o = lsF (R'.1 37) (owT R) (nI o) f) ∧ (f < t → cbF (R.1 33) (R.1 34) k f = 1 → ∃ C1, f_X10_gather (nI f) C' = some C1 ∧ kC C' C1 ∧ corr (C1.1 19) (fun y => R'.1 38 (13 * f + y))) := by
    intro R' C2 e1' e2' e3' e4' e5'
    refine ⟨C', R', g1, by rw [g6]; exact e1', g3, kR_t g4 e3', fun j hj => ?_, fun j hj => ?_, fun o ho => ?_, e5'⟩
    · obtain ⟨x1, x2, x3⟩ := e4' j hj
      obtain ⟨y1, y2, y3, y4, y5⟩ := g2.2.2.1 j hj
      rw [x2, x3]
      exact ⟨y1, y2⟩
    · obtain ⟨y1, y2, y3, y4, y5⟩ := e2'.2.2.1 j hj
      rw [e3'.1 33 rfl, e3'.1 34 rfl, g4.1 33 rfl, g4.1 34 rfl] at y3
      exact ⟨y3, y4, y5⟩
    · obtain ⟨y1, y2, y3, y4, y5, y6, y7, y8⟩ := g2.1 o ho
      rw [y3, y8]
      exact (lsF_eq (fun j hj => ⟨(e4' j hj).2.2, (owT_k g4 j).symm⟩)).symm
  by_cases hlt : f < t
  · obtain ⟨nR, rfl⟩ : ∃ q, nR = q + 1 := ⟨nR - 1, by omega⟩
    obtain ⟨C2, R2, s1', s2', s3', s4', s5', s6', s7'⟩ := step_w hrel hn1 hn4 ht1' ht1 hlt g2
    obtain ⟨C3, R3, w1, w2, w3, w4, w5, w6⟩ := w_rest (k := k) hn4 ht1 (t - (f + 1)) (f + 1) nR C2 R2 (by omega) (by omega) (rel_k hrel s4' s5') (by rw [s5'.2 2 rfl]; exact hn1) (by rw [s5'.2 43 rfl]; exact ht1') s3'
    refine fin R3 C3 (by rw [s2']; exact w1) w2 (kR_t s5' w4) (fun j hj => ?_) (fun _ hcb => ?_)
    · obtain ⟨x1, x2, x3⟩ := w5 j (by omega)
      obtain ⟨y1, y2, y3⟩ := s6'.1 j (by omega)
      exact ⟨x1.trans y1, x2.trans y2, x3.trans y3⟩
    · obtain ⟨C1, z1, z2, z3⟩ := s7' (by rw [g4.1 33 rfl, g4.1 34 rfl]; exact hcb)
      refine ⟨C1, z1, z2, ?_⟩
      obtain ⟨y1, y2, y3, y4, y5, y6, y7, y8, y9, y10, y11, y12, y13⟩ := z3
      refine ⟨?_, ?_, ?_, ?_, ?_, ?_, ?_, ?_, ?_, ?_, ?_, ?_, ?_⟩
      · exact y1.trans (w6 (13 * f + 0) (by omega)).symm
      · exact y2.trans (w6 (13 * f + 1) (by omega)).symm
      · exact y3.trans (w6 (13 * f + 2) (by omega)).symm
      · exact y4.trans (w6 (13 * f + 9) (by omega)).symm
      · exact y5.trans (w6 (13 * f + 3) (by omega)).symm
      · exact y6.trans (w6 (13 * f + 4) (by omega)).symm
      · exact y7.trans (w6 (13 * f + 5) (by omega)).symm
      · exact y8.trans (w6 (13 * f + 12) (by omega)).symm
      · exact y9.trans (w6 (13 * f + 6) (by omega)).symm
      · exact y10.trans (w6 (13 * f + 7) (by omega)).symm
      · exact y11.trans (w6 (13 * f + 8) (by omega)).symm
      · exact y12.trans (w6 (13 * f + 10) (by omega)).symm
      · exact y13.trans (w6 (13 * f + 11) (by omega)).symm
  · obtain ⟨C3, R3, w1, w2, w3, w4, w5, w6⟩ := w_rest (k := k) hn4 ht1 (t - f) f nR C' R1 (by omega) (by omega) hrel hn1 ht1' g2
    exact fin R3 C3 w1 w2 w4 w5 (fun q => absurd q hlt)
theorem wd_ok {b : Int32} (M : mm_M) (h1 : 0 ≤ b) (h2 : b ≤ 2000) : f_X12_wrongDay b M = some (0, M) := by
  unfold f_X12_wrongDay
  rw [if_pos h1, if_pos h2]
theorem wd_6 {b : Int32} (M : mm_M) (h1 : 0 ≤ b) (h2 : ¬ b ≤ 2000) : f_X12_wrongDay b M = some (-6, M) := by
  unfold f_X12_wrongDay
  rw [if_pos h1, if_neg h2]
theorem wd_4 {b : Int32} (M : mm_M) (h1 : ¬ 0 ≤ b) : f_X12_wrongDay b M = some (-4, M) := by
  unfold f_X12_wrongDay
  rw [if_neg h1]
theorem g6n : ¬ (0 : Int32) ≤ -6 := by decide +kernel
theorem g4n : ¬ (0 : Int32) ≤ -4 := by decide +kernel
theorem le00 : (0 : Int32) ≤ 0 := by decide +kernel
theorem ends_k {C R C' R' : mm_M} {x : Int32} (h : Rel C R) (hc : kC C C') (hr : kR R R') : ends (some (x, C')) (some (x, R')) := ends_of (rel_k h hc hr)
theorem ok_testOf (a b c : Int32) : op_i Rel (f_X11_testOf a b c) (f_X12_testOf a b c) := by
  intro C R h
  unfold f_X12_testOf
  rw [let_]
  have h := rel_t h 0
  generalize sI R 0 0 0 = R at h ⊢
  show ends _ _
  unfold f_X11_testOf
  try unfold mI
  have h' := h
  obtain ⟨⟨⟨bd, bn, bt, bu, bv, bw, bl⟩, ⟨sa, sb, sc, sd, se, sf, sg, sh⟩, ⟨ka, kb, kc, kd, ke⟩, ⟨ta, tb, tc, td, te, tf, tg⟩, ⟨ra, rb, rc, rd, re_, rf⟩, ⟨qa, qb, qc, qd, qe⟩⟩, hr, hl, hw, d, n, t, u, v, w, ⟨⟨⟨id1, id2⟩, ⟨in1, in2⟩, ⟨it1, it2⟩, ⟨iu1, iu2⟩, ⟨iv1, iv2⟩, ⟨iw1, iw2⟩, ilv⟩, jS, jK, jT, jR, jC, jB, jM, jD, jL⟩, hrule, hhome⟩ := h'
  unfold f_X11_testOf_26
  simp only [bi_id]
  have ht := bt.trans it1
  rcases ix_of a (n := t) (by omega) with ⟨j, hj, rfl⟩ | ha
  · rw [test_y ht it2 hj, isTest_y it1 it2 hj, bi_, bi_, if_neg n10, if_neg n10]
    rcases ix_of c (n := 3) (by omega) with ⟨m, hm, rfl⟩ | hc
    · rw [if_neg (nI_pos (by omega)), if_pos (show nI m ≤ 2 from nI_le (b := 2) (by omega) (by omega)), in_jx (n := 2) R (by omega) rfl hm, bi_, if_neg n10]
      rcases out_of (a := b) (lo := 0) (hi := 2000) C with ⟨q1, q2, q3⟩ | ⟨q1, q2, q3⟩ | ⟨q1, q3⟩
      · rw [q3, bi_, if_pos rfl, wd_ok R q1 q2, bi_, if_pos le00]
        obtain ⟨C', R', w1, w2, w3, w4, w5, w6, w7, w8⟩ := weigh_two h b in1 in2 it1 it2 (show j + 1 ≤ t by omega)
        rw [w2, bv_, add1, w1, bv_]
        obtain ⟨x1, x2, x3⟩ := w6 j hj
        obtain ⟨y1, y2⟩ := w5 j (by omega)
        have hcc := counts_c ht it2 hj b
        rw [tf, tg] at hcc
        rcases (show m = 0 ∨ m = 1 ∨ m = 2 by omega) with rfl | rfl | rfl
        · rw [if_pos (show nI 0 = 0 from rfl), if_pos (show nI 0 = 0 from rfl), hcc, bi_, ckI (by omega) (by omega), clI (by omega), x1]
          by_cases z : cbF (R.1 33) (R.1 34) b j = 0
          · rw [if_pos z, if_pos z]
            exact ends_k h (kC_r C) w4
          · rw [if_neg z, if_neg z]
            exact ends_k h (kC_r C) w4
        · rw [if_neg (show ¬ nI 1 = 0 from n10), if_neg (show ¬ nI 1 = 0 from n10), if_pos (show nI 1 = 1 from rfl), if_pos (show nI 1 = 1 from rfl), ckI (by omega) (by omega), ckI (by omega) (by omega), clI (by omega), y1]
          by_cases z : R'.1 36 j = 0
          · rw [if_pos z, if_pos z]
            exact ends_k h w3 w4
          · rw [if_neg z, if_neg z]
            exact ends_k h w3 w4
        · rw [if_neg (show ¬ nI 2 = 0 by decide +kernel), if_neg (show ¬ nI 2 = 0 by decide +kernel), if_neg (show ¬ nI 2 = 1 by decide +kernel), if_neg (show ¬ nI 2 = 1 by decide +kernel), ckI (by omega) (by omega), ckI (by omega) (by omega), clI (by omega), y2]
          exact ends_k h w3 w4
      · rw [q3, bi_, if_neg (by rw [z6]; exact id), wd_6 R q1 q2, bi_, if_neg g6n, wd_6 R q1 q2, bi_]
        exact ref6 h
      · rw [q3, bi_, if_neg (by rw [z4]; exact id), wd_4 R q1, bi_, if_neg g4n, wd_4 R q1, bi_]
        exact ref4 h
    · rw [in_ix (n := 2) R (by omega) rfl hc, bi_, if_pos rfl]
      by_cases c0 : c < 0
      · rw [if_pos c0]
        exact ref2 h
      · rw [if_neg c0, if_neg (show ¬ c ≤ 2 by
          rcases hc with q | q
          · exact absurd q c0
          · rw [Int32.le_iff_toInt_le] at q ⊢
            have : (2 : Int32).toInt = 2 := rfl
            have : (nI 3).toInt = 3 := (by decide +kernel)
            omega)]
        exact ref2 h
  · rw [test_n ht ha, isTest_n it1 it2 ha, bi_, bi_, if_pos rfl, if_pos rfl]
    exact ref1 h
theorem fact_corr {F g : Nat → Int32} {c : Int32} (h : isF c) (hc : corr F g) : ∃ k, k < 13 ∧ (∀ M, f_X12_factOf c M = some (nI k, M)) ∧ ∃ y, y < 26 ∧ c - 97 = nI y ∧ F y = g k := by
  rcases h with rfl | rfl | rfl | rfl | rfl | rfl | rfl | rfl | rfl | rfl | rfl | rfl | rfl
  · exact ⟨0, by omega, fun _ => rfl, 0, by omega, by decide +kernel, hc.1⟩
  · exact ⟨1, by omega, fun _ => rfl, 1, by omega, by decide +kernel, hc.2.1⟩
  · exact ⟨2, by omega, fun _ => rfl, 2, by omega, by decide +kernel, hc.2.2.1⟩
  · exact ⟨9, by omega, fun _ => rfl, 3, by omega, by decide +kernel, hc.2.2.2.1⟩
  · exact ⟨3, by omega, fun _ => rfl, 6, by omega, by decide +kernel, hc.2.2.2.2.1⟩
  · exact ⟨4, by omega, fun _ => rfl, 7, by omega, by decide +kernel, hc.2.2.2.2.2.1⟩
  · exact ⟨5, by omega, fun _ => rfl, 10, by omega, by decide +kernel, hc.2.2.2.2.2.2.1⟩
  · exact ⟨12, by omega, fun _ => rfl, 12, by omega, by decide +kernel, hc.2.2.2.2.2.2.2.1⟩
  · exact ⟨6, by omega, fun _ => rfl, 13, by omega, by decide +kernel, hc.2.2.2.2.2.2.2.2.1⟩
  · exact ⟨7, by omega, fun _ => rfl, 14, by omega, by decide +kernel, hc.2.2.2.2.2.2.2.2.2.1⟩
  · exact ⟨8, by omega, fun _ => rfl, 15, by omega, by decide +kernel, hc.2.2.2.2.2.2.2.2.2.2.1⟩
  · exact ⟨10, by omega, fun _ => rfl, 18, by omega, by decide +kernel, hc.2.2.2.2.2.2.2.2.2.2.2.1⟩
  · exact ⟨11, by omega, fun _ => rfl, 24, by omega, by decide +kernel, hc.2.2.2.2.2.2.2.2.2.2.2.2⟩
theorem ok_fact (a b c : Int32) : op_i Rel (f_X11_fact a b c) (f_X12_fact a b c) := by
  intro C R h
  unfold f_X12_fact
  rw [let_]
  have h := rel_t h 0
  generalize sI R 0 0 0 = R at h ⊢
  show ends _ _
  unfold f_X11_fact
  try unfold mI
  have h' := h
  obtain ⟨⟨⟨bd, bn, bt, bu, bv, bw, bl⟩, ⟨sa, sb, sc, sd, se, sf, sg, sh⟩, ⟨ka, kb, kc, kd, ke⟩, ⟨ta, tb, tc, td, te, tf, tg⟩, ⟨ra, rb, rc, rd, re_, rf⟩, ⟨qa, qb, qc, qd, qe⟩⟩, hr, hl, hw, d, n, t, u, v, w, ⟨⟨⟨id1, id2⟩, ⟨in1, in2⟩, ⟨it1, it2⟩, ⟨iu1, iu2⟩, ⟨iv1, iv2⟩, ⟨iw1, iw2⟩, ilv⟩, jS, jK, jT, jR, jC, jB, jM, jD, jL⟩, hrule, hhome⟩ := h'
  simp only [bi_id]
  have ht := bt.trans it1
  rcases ix_of a (n := t) (by omega) with ⟨j, hj, rfl⟩ | ha
  · rw [test_y ht it2 hj, isTest_y it1 it2 hj, bi_, bi_, if_neg n10, if_neg n10]
    by_cases hf : isF c
    · rw [isF_y C hf, bi_, if_neg n10]
      obtain ⟨k0, k1, k2, k3⟩ := fO_y hf
      rw [k2, bi_, if_pos (nI_pos' (by omega))]
      rcases out_of (a := b) (lo := 0) (hi := 2000) C with ⟨q1, q2, q3⟩ | ⟨q1, q2, q3⟩ | ⟨q1, q3⟩
      · rw [q3, bi_, if_pos rfl, wd_ok R q1 q2, bi_, if_pos le00]
        have hcc := counts_c ht it2 hj b
        rw [tf, tg] at hcc
        have hcr := counts_r id2 (show j < 100 by omega) (jT.1 j hj |>.choose_spec.choose_spec.choose_spec.2.2.2.2.2.2.2.2.2.2.2) b
        rw [hcc, hcr, bi_, bi_]
        rcases cbF01 (R.1 33) (R.1 34) b j with z | z
        · rw [z, if_pos rfl, if_pos rfl]
          exact ref3 h
        · rw [z, if_neg n10, if_neg n10]
          obtain ⟨C', R', w1, w2, w3, w4, w5, w6, w7, w8⟩ := weigh_two h b in1 in2 it1 it2 (show j ≤ t by omega)
          obtain ⟨C1, v1, v2, v3⟩ := w8 hj z
          obtain ⟨m, m1, m2, y, y1, y2, y3⟩ := fact_corr hf v3
          rw [w1, w2, bv_, bv_, v1, bv_, m2, bi_, y2, ckI y1 (by omega), clI (by omega), ax13, nI_add, ckI (by omega) (by omega), clI (by omega)]
          show ends (some (C1.1 19 y, C1)) (some (R'.1 38 (13 * j + m), R'))
          rw [y3]
          exact ends_k h (kC_t w3 v2) w4
      · rw [q3, bi_, if_neg (by rw [z6]; exact id), wd_6 R q1 q2, bi_, if_neg g6n, wd_6 R q1 q2, bi_]
        exact ref6 h
      · rw [q3, bi_, if_neg (by rw [z4]; exact id), wd_4 R q1, bi_, if_neg g4n, wd_4 R q1, bi_]
        exact ref4 h
    · rw [isF_n C hf, bi_, if_pos rfl, fO_n R hf, bi_, if_neg (by decide +kernel)]
      exact ref2 h
  · rw [test_n ht ha, isTest_n it1 it2 ha, bi_, bi_, if_pos rfl, if_pos rfl]
    exact ref1 h

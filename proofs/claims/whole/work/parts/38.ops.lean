theorem n10 : ¬ (1 : Int32) = 0 := by decide +kernel
theorem latest_c {C : mm_M} {t : Nat} (h : C.1 4 7 = nI t) (ht : t ≤ 100) : f_X9_latestDay C = some (if t = 0 then 0 else C.1 41 (t - 1), C) := by
  unfold f_X9_latestDay mI
  rw [h]
  by_cases e : t = 0
  · subst e
    rw [if_pos (by decide +kernel), if_pos rfl]
  · rw [if_neg (nI_nle (by omega) (by omega)), if_neg (show ¬ (100 : Int32) < nI t from nI_nlt (a := 100) (by omega) (by decide)), sub1 (by omega), ckI (by omega) (by omega), clI (by omega), if_neg e]
theorem ok_test (a b c x y z : Int32) : op_i Rel (f_X11_test a b c x y z) (f_X12_test a b c x y z) := by
  intro C R h
  unfold f_X12_test
  rw [let_]
  have h := rel_t h 0
  generalize sI R 0 0 0 = R at h ⊢
  show ends _ _
  unfold f_X11_test
  try unfold mI
  have h' := h
  obtain ⟨⟨⟨bd, bn, bt, bu, bv, bw, bl⟩, ⟨sa, sb, sc, sd, se, sf, sg, sh⟩, ⟨ka, kb, kc, kd, ke⟩, ⟨ta, tb, tc, td, te, tf, tg⟩, ⟨ra, rb, rc, rd, re_, rf⟩, ⟨qa, qb, qc, qd, qe⟩⟩, hr, hl, hw, d, n, t, u, v, w, ⟨⟨⟨id1, id2⟩, ⟨in1, in2⟩, ⟨it1, it2⟩, ⟨iu1, iu2⟩, ⟨iv1, iv2⟩, ⟨iw1, iw2⟩, ilv⟩, jS, jK, jT, jR, jC, jB, jM, jD, jL⟩, hrule, hhome⟩ := h'
  have hn := bn.trans in1
  have ht := bt.trans it1
  unfold f_X11_test_135 f_X11_test_97 f_X11_test_49 f_X11_test_31 f_X12_test_123 f_X12_test_113 f_X12_test_158 f_X12_test_32 f_X12_test_123
  try unfold f_X12_test_158 f_X12_test_123
  simp only [bi_id]
  rcases ix_of a (n := n) (by omega) with ⟨j, hj, rfl⟩ | ha
  · rw [has_y hn in2 hj, isShop_y in1 in2 hj, bi_, bi_]
    simp only [z01, reduceIte]
    rcases ix_of b (n := 8) (by omega) with ⟨i, hi, rfl⟩ | hb
    · rw [kid_y C hi, in_jx (n := 7) R (by omega) rfl hi, bi_, bi_]
      simp only [z01, reduceIte]
      rcases ix_of c (n := 4) (by omega) with ⟨g, hg, rfl⟩ | hc
      · rw [if_neg (nI_pos (show g < 2 ^ 31 by omega)), if_pos (show nI g < 4 from nI_lt (b := 4) hg (by decide)), in_jx (n := 3) R (by omega) rfl hg, bi_, if_neg n10]
        rcases ix_of z (n := 8) (by omega) with ⟨q, hq, rfl⟩ | hz
        · rw [if_neg (nI_pos (show q < 2 ^ 31 by omega)), if_pos (show nI q ≤ 7 from nI_le (b := 7) (by omega) (by decide)), in_jx (n := 7) R (by omega) rfl hq, bi_, if_neg n10]
          simp only [ckI hi (show 8 ≤ 100000 by omega), clI (show i < 2 ^ 31 by omega), ckI (show j < 40 by omega) (show 40 ≤ 100000 by omega), clI (show j < 2 ^ 31 by omega), ka, sf]
          by_cases e0 : R.1 9 i = 0
          · rw [if_pos e0, if_pos e0]
            exact ref5 h
          · rw [if_neg e0, if_neg e0]
            by_cases e1 : R.1 6 j = 0
            · rw [if_pos e1, if_pos e1]
              exact ref3 h
            · rw [if_neg e1, if_neg e1]
              obtain ⟨m1, m2, m3, m4, m5, m6, o, m7, m8, m9, w0, m11, m10⟩ := jS.1 j hj
              obtain ⟨r, o1, o2, o3⟩ := owner_ok hn in2 hj m7 m9 sg sh x
              unfold f_X11_mayBeTestedOn
              simp only [o1, o2, bi_, latest_c ht it2, mI, bd, tc, bt, it1]
              have k1 : ¬ (t = 0) → nI t - 1 = nI (t - 1) := fun q => sub1 (by omega)
              by_cases c1 : R.1 0 1 < x
              · rw [if_pos c1, if_pos c1]
                by_cases c0 : r < 0
                · rw [if_pos c0, bi_, if_pos rfl]
                  exact ref3 h
                · rw [if_neg c0, bi_, if_pos rfl]
                  exact ref3 h
              · rw [if_neg c1, if_neg c1]
                have hlast : ∀ {A B : Option (Int32 × mm_M)}, (if nI t ≤ 0 then A else mm_ck (nI t - 1) 100 (if x < R.1 30 (nI t - 1).toNatClampNeg then B else A)) = if t = 0 then A else if x < R.1 30 (t - 1) then B else A := by
                  intro A B
                  by_cases e : t = 0
                  · subst e
                    rw [if_pos (by decide +kernel), if_pos rfl]
                  · rw [if_neg (nI_nle (by omega) (by omega)), k1 e, ckI (by omega) (by omega), clI (by omega), if_neg e]
                rw [hlast]
                rcases o3 with ⟨rfl, o4⟩ | ⟨k, o4, rfl, o5⟩
                · rw [if_pos (show (-1 : Int32) < 0 by decide +kernel), bi_, if_pos rfl, if_neg (show ¬ (0 : Int32) ≤ -1 by decide +kernel)]
                  have : (if t = 0 then f_X12_refuse (-3) R else if x < R.1 30 (t - 1) then f_X12_refuse (-3) R else f_X12_refuse (-3) R) = f_X12_refuse (-3) R := by
                    split
                    · rfl
                    · split <;> rfl
                  rw [this]
                  exact ref3 h
                · rw [if_neg (nI_pos (by omega)), if_pos (nI_pos' (n := 6 * j + k) (by omega))]
                  obtain ⟨f, f1, f2, f3⟩ := m10 k o4
                  rw [f1] at o5
                  have hx : rng x f d := num_of f d rfl id1 (by omega) (by omega) (nlt_le.mp o5) (nlt_le.mp c1)
                  obtain ⟨e, rfl, x1, x2⟩ := hx
                  by_cases hll : ¬ t = 0 ∧ nI e < R.1 30 (t - 1)
                  · rw [if_neg hll.1, if_pos hll.2, bi_, if_pos rfl, if_neg hll.1, if_pos hll.2]
                    exact ref3 h
                  · have hl1 : ¬ nI e < (if t = 0 then 0 else R.1 30 (t - 1)) := by
                      split
                      · exact nI_pos (by omega)
                      · rename_i q0
                        exact fun q1 => hll ⟨q0, q1⟩
                    have hl2 : ∀ {A B : Option (Int32 × mm_M)}, (if t = 0 then A else if nI e < R.1 30 (t - 1) then B else A) = A := by
                      intro A B
                      split
                      · rfl
                      · rename_i q0
                        rw [if_neg (fun q1 => hll ⟨q0, q1⟩)]
                    rw [if_neg hl1, bi_, if_neg n10, hl2]
                    by_cases y0 : 0 ≤ y
                    · rw [if_pos y0, if_pos y0]
                      by_cases y2 : (23 : Int32) < y
                      · rw [if_pos y2, if_pos (by rw [Int32.le_iff_toInt_le]; rw [Int32.lt_iff_toInt_lt] at y2; have : (23 : Int32).toInt = 23 := rfl; have : (24 : Int32).toInt = 24 := rfl; omega)]
                        exact ref6 h
                      · rw [if_neg y2, if_neg (by rw [Int32.le_iff_toInt_le]; rw [Int32.lt_iff_toInt_lt] at y2; have : (23 : Int32).toInt = 23 := rfl; have : (24 : Int32).toInt = 24 := rfl; omega)]
                        by_cases t1 : t = 100
                        · subst t1
                          rw [ht, if_neg (by decide +kernel), if_pos (by rfl)]
                          exact ref6 h
                        · have e1 : nI t < 100 := nI_lt (b := 100) (by omega) (by decide)
                          have e2 : ¬ nI t = 100 := fun q => t1 ((nI_eq (b := 100) (by omega) (by decide)).mp q)
                          unfold f_X9_add mI
                          simp only [ht, it1, id1, e1, e2, reduceIte, let_, ckI (show t < 100 by omega) (show 100 ≤ 100000 by omega), clI (show t < 2 ^ 31 by omega), s1, upd_at, Nat.reduceEqDiff, add1, nI_pred]
                          refine ends_of ?_
                          have hy : rng y 0 23 := num_of (lo := 0) (hi := 23) 0 23 rfl rfl (by omega) (by omega) y0 (nlt_le.mp y2)
                          have i1 : R.1 9 i = 1 := by
                            rcases rng01 (jK i hi).1 with q1 | q1
                            · exact absurd q1 e0
                            · exact q1
                          unfold Rel rBase Inv iScal
                          simp only [s1, s2, l1, l2, upd_at, Nat.reduceEqDiff, reduceIte]
                          refine ⟨⟨⟨bd, bn, trivial, bu, bv, bw, bl⟩, ⟨sa, sb, sc, sd, se, sf, sg, sh⟩, ⟨ka, kb, kc, kd, ke⟩, ⟨by rw [ta], by rw [tb], by rw [tc], by rw [td], by rw [te], by rw [tf, bd, id1], by rw [tg]⟩, ⟨ra, rb, rc, rd, re_, rf⟩, ⟨qa, qb, qc, qd, qe⟩⟩, hr, hl, hw, d, n, t + 1, u, v, w, ⟨⟨⟨id1, id2⟩, ⟨in1, in2⟩, ⟨rfl, by omega⟩, ⟨iu1, iu2⟩, ⟨iv1, iv2⟩, ⟨iw1, iw2⟩, ilv⟩, jS, jK, ⟨fun p hp => ?_, fun p1 p2 pa pb hp1 hp2 ha1 ha2 hb1 hb2 => ?_⟩, jR, jC, jB, jM, jD, jL⟩, hrule, hhome⟩
                          · by_cases ek : p = t
                            · subst ek
                              simp only [upd_at, reduceIte]
                              exact ⟨j, i, e, rfl, hj, rfl, hi, i1, rfl, x2, ⟨w0, m11, by omega⟩, hy, ⟨q, rfl, by omega, by omega⟩, ⟨d, rfl, by omega, by omega⟩, Or.inl trivial⟩
                            · simp only [upd_at, if_neg ek]
                              exact jT.1 p (by omega)
                          · by_cases ek : p2 = t
                            · subst ek
                              rw [upd_at, if_neg (by omega)] at hb1
                              rw [upd_at, if_pos rfl] at hb2
                              have hbe := (nI_eq (by omega) (by omega)).mp hb2
                              have hz0 : ¬ p2 = 0 := by omega
                              rw [if_neg hz0] at hl1
                              obtain ⟨s8, c8, f8, v1, v2, v3, v4, v5, v6, v7, v8⟩ := jT.1 (p2 - 1) (by omega)
                              rw [v6, nI_ltI (by omega) (by omega)] at hl1
                              by_cases ep : p1 = p2 - 1
                              · subst ep
                                rw [v6] at hb1
                                have := (nI_eq (by omega) (by omega)).mp hb1
                                omega
                              · have := jT.2 p1 (p2 - 1) pa f8 (by omega) (by omega) ha1 (by omega) hb1 v6
                                omega
                            · rw [upd_at, if_neg (by omega)] at hb1
                              rw [upd_at, if_neg ek] at hb2
                              exact jT.2 p1 p2 pa pb hp1 (by omega) ha1 ha2 hb1 hb2
                    · rw [if_neg y0, if_neg y0]
                      exact ref4 h
        · rw [in_ix (n := 7) R (by omega) rfl hz, bi_, if_pos rfl]
          by_cases z0 : z < 0
          · rw [if_pos z0]
            exact ref2 h
          · rw [if_neg z0, if_neg (show ¬ z ≤ 7 by rcases hz with q | q; exact absurd q z0; rw [Int32.le_iff_toInt_le] at q ⊢; have : (7 : Int32).toInt = 7 := rfl; have : (nI 8).toInt = 8 := (by decide +kernel); omega)]
            exact ref2 h
      · rw [in_ix (n := 3) R (by omega) rfl hc, bi_, if_pos rfl]
        by_cases z0 : c < 0
        · rw [if_pos z0]
          exact ref1 h
        · rw [if_neg z0, if_neg (show ¬ c < 4 by rcases hc with q | q; exact absurd q z0; rw [Int32.le_iff_toInt_le] at q; rw [Int32.lt_iff_toInt_lt]; have : (4 : Int32).toInt = 4 := rfl; have : (nI 4).toInt = 4 := (by decide +kernel); omega)]
          exact ref1 h
    · rw [kid_n C hb, in_ix (n := 7) R (by omega) rfl hb, bi_, bi_, if_pos rfl, if_pos rfl]
      exact ref1 h
  · rw [has_n hn ha, isShop_n in1 in2 ha, bi_, bi_, if_pos rfl, if_pos rfl]
    exact ref1 h

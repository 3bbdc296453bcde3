theorem lt_n {a b : Nat} (h : a < b) (hb : b < 2 ^ 31) : nI a < nI b := nI_lt h hb
theorem le60 {a : Int32} (h1 : ¬ a < 0) (h2 : ¬ (60 : Int32) < a) : rng a 0 60 := by
  refine num_of (lo := 0) (hi := 60) 0 60 rfl rfl (by omega) (by omega) ?_ ?_
  · rw [Int32.le_iff_toInt_le]; rw [Int32.lt_iff_toInt_lt] at h1; omega
  · rw [Int32.le_iff_toInt_le]; rw [Int32.lt_iff_toInt_lt] at h2; omega
theorem z0le {a : Int32} : (0 ≤ a) ↔ ¬ a < 0 := by
  rw [Int32.le_iff_toInt_le, Int32.lt_iff_toInt_lt]; omega
theorem nlt_le {a b : Int32} : (¬ a < b) ↔ b ≤ a := by
  rw [Int32.le_iff_toInt_le, Int32.lt_iff_toInt_lt]; omega
theorem nle_lt {a b : Int32} : (¬ a ≤ b) ↔ b < a := by
  rw [Int32.le_iff_toInt_le, Int32.lt_iff_toInt_lt]; omega
theorem ok_shop (a b x y : Int32) : op_i Rel (f_X11_shop a b x y) (f_X12_shop a b x y) := by
  intro C R h
  unfold f_X12_shop
  rw [let_]
  have h := rel_t h 0
  generalize sI R 0 0 0 = R at h ⊢
  show ends _ _
  unfold f_X11_shop
  try unfold mI
  have h' := h
  obtain ⟨⟨⟨bd, bn, bt, bu, bv, bw, bl⟩, ⟨sa, sb, sc, sd, se, sf, sg, sh⟩, ⟨ka, kb, kc, kd, ke⟩, ⟨ta, tb, tc, td, te, tf, tg⟩, ⟨ra, rb, rc, rd, re_, rf⟩, ⟨qa, qb, qc, qd, qe⟩⟩, hr, hl, hw, d, n, t, u, v, w, ⟨⟨⟨id1, id2⟩, ⟨in1, in2⟩, ⟨it1, it2⟩, ⟨iu1, iu2⟩, ⟨iv1, iv2⟩, ⟨iw1, iw2⟩, ilv⟩, jS, jK, jT, jR, jC, jB, jM, jD, jL⟩, hrule, hhome⟩ := h'
  have hn := bn.trans in1
  unfold f_X11_shop_68 f_X11_shop_36 f_X12_shop_74 f_X12_shop_45
  simp only [bi_id]
  rcases ix_of a (n := 5) (by omega) with ⟨i, hi, rfl⟩ | ha
  · rw [kind_y C hi, in_jx (n := 4) R (by omega) rfl hi, bi_, bi_]
    simp only [z01, reduceIte]
    rcases ix_of b (n := 4) (by omega) with ⟨j, hj, rfl⟩ | hb
    · rw [ward_y C hj, in_jx (n := 3) R (by omega) rfl hj, bi_, bi_]
      simp only [z01, reduceIte]
      by_cases x0 : x < 0
      · rw [if_pos x0, if_pos x0]
        exact ref4 h
      · rw [if_neg x0, if_neg x0]
        by_cases y0 : 0 ≤ y
        · rw [if_pos y0, if_pos y0]
          by_cases x6 : (60 : Int32) < x
          · rw [if_pos x6, if_pos x6]
            exact ref6 h
          · rw [if_neg x6, if_neg x6]
            by_cases y6 : (60 : Int32) < y
            · rw [if_pos y6, if_pos y6]
              exact ref6 h
            · rw [if_neg y6, if_neg y6, hn, in1]
              by_cases n4 : n = 40
              · subst n4
                rw [if_neg (by decide +kernel), if_pos (by rfl)]
                exact ref6 h
              · have e1 : nI n < 40 := nI_lt (b := 40) (by omega) (by decide)
                have e2 : ¬ nI n = 40 := fun q => n4 ((nI_eq (b := 40) (by omega) (by decide)).mp q)
                have e3 : nI n * 6 + 0 = nI (6 * n) := i6m n 0
                have e4 : 6 * nI n = nI (6 * n) := pk_mul 6 n
                have e5 : (0 : Int32) < 6 := by decide +kernel
                have o0 : R.1 7 n = 0 := jS.2 n (by omega)
                unfold f_X6_add f_X6_addOwner f_X6_has mI
                simp only [hn, in1, e1, e2, reduceIte, let_, ckI (show n < 40 by omega) (show 40 ≤ 100000 by omega), clI (show n < 2 ^ 31 by omega), s1, upd_at, Nat.reduceEqDiff, add1, nI_pos (show n < 2 ^ 31 by omega), nI_ge (show n < n + 1 by omega) (show n + 1 < 2 ^ 31 by omega), bi_, z01, sg, o0, e5, e3, e4, ckI (show 6 * n < 240 by omega) (show 240 ≤ 100000 by omega), clI (show 6 * n < 2 ^ 31 by omega), nI_pred, a11, eq_self]
                refine ends_of ?_
                have e6 : (0 : Int32) + 1 = 1 := by decide +kernel
                unfold Rel rBase Inv iScal
                simp only [s1, s2, l1, l2, upd_at, Nat.reduceEqDiff, reduceIte]
                refine ⟨⟨⟨by rw [bd], trivial, bt, bu, bv, bw, bl⟩, ⟨by rw [sa], by rw [sb], by rw [sc], by rw [sd], by rw [se], by rw [sf], by rw [e6, sg], by rw [sh, bd]⟩, ⟨ka, kb, kc, kd, ke⟩, ⟨ta, tb, tc, td, te, tf, tg⟩, ⟨ra, rb, rc, rd, re_, rf⟩, ⟨qa, qb, qc, qd, qe⟩⟩, hr, hl, hw, d, n + 1, t, u, v, w, ⟨⟨⟨id1, id2⟩, ⟨rfl, by omega⟩, ⟨it1, it2⟩, ⟨iu1, iu2⟩, ⟨iv1, iv2⟩, ⟨iw1, iw2⟩, ilv⟩, ⟨fun k hk => ?_, fun k hk => ?_⟩, jK, ⟨fun k hk => ?_, jT.2⟩, jR, fun k hk => ?_, jB, jM, jD, jL⟩, ⟨fun j h1 h2 => hrule.1 j (by omega) h2, hrule.2⟩, hhome⟩
                · by_cases ek : k = n
                  · subst ek
                    simp only [upd_at, reduceIte]
                    refine ⟨⟨i, rfl, by omega, by omega⟩, ⟨j, rfl, by omega, by omega⟩, le60 x0 x6, le60 (z0le.mp y0) y6, ⟨1, rfl, by omega, by omega⟩, ⟨1, rfl, by omega, by omega⟩, 1, rfl, by omega, by omega, d, id1, fun q hq => ?_⟩
                    rw [if_pos (by omega)]
                    exact ⟨d, id1, by omega, by omega⟩
                  · obtain ⟨m1, m2, m3, m4, m5, m6, o', m7, m8, m9, e1, m11, m10⟩ := jS.1 k (by omega)
                    simp only [upd_at, if_neg ek]
                    refine ⟨m1, m2, m3, m4, m5, m6, o', m7, m8, m9, e1, ?_, fun q hq => ?_⟩
                    · rw [if_neg (by omega)]
                      exact m11
                    · rw [if_neg (by omega)]
                      exact m10 q hq
                · rw [upd_at, if_neg (by omega)]
                  exact jS.2 k (by omega)
                · obtain ⟨s, c, f, m1, m2, m3, m4, m5, m6, m7, ⟨m8, m9, m10⟩, m11⟩ := jT.1 k hk
                  refine ⟨s, c, f, m1, by omega, m3, m4, m5, m6, m7, ⟨m8, ?_, m10⟩, m11⟩
                  rw [upd_at, if_neg (by omega)]
                  exact m9
                · obtain ⟨m1, ⟨s, m2, m3⟩, m4⟩ := jC k hk
                  exact ⟨m1, ⟨s, m2, by omega⟩, m4⟩
        · rw [if_neg y0, if_neg y0]
          exact ref4 h
    · rw [ward_n C hb, in_ix (n := 3) R (by omega) rfl hb, bi_, bi_, if_pos rfl, if_pos rfl]
      exact ref1 h
  · rw [kind_n C ha, in_ix (n := 4) R (by omega) rfl ha, bi_, bi_, if_pos rfl, if_pos rfl]
    exact ref2 h
theorem lacks_y {R : mm_M} {i : Nat} (hi : i < 8) (h : ¬ R.1 9 i = 0) : f_X12_lacks (nI i) R = some (0, R) := by
  unfold f_X12_lacks mI
  rw [in_jx (n := 7) R (by omega) rfl hi, bi_]
  simp only [z01, reduceIte, ckI hi (show 8 ≤ 100000 by omega), clI (show i < 2 ^ 31 by omega), h]
theorem lacks_0 {R : mm_M} {i : Nat} (hi : i < 8) (h : R.1 9 i = 0) : f_X12_lacks (nI i) R = some (-5, R) := by
  unfold f_X12_lacks mI
  rw [in_jx (n := 7) R (by omega) rfl hi, bi_]
  simp only [z01, reduceIte, ckI hi (show 8 ≤ 100000 by omega), clI (show i < 2 ^ 31 by omega), h]
theorem lacks_n {R : mm_M} {a : Int32} (ha : a < 0 ∨ nI 8 ≤ a) : f_X12_lacks a R = some (-1, R) := by
  unfold f_X12_lacks mI
  rw [in_ix (n := 7) R (by omega) rfl ha, bi_, if_pos rfl]
/-- age and looks -/
theorem age_c {C : mm_M} {i : Nat} (hi : i < 8) (b : Int32) : f_X0_age (nI i) b C = some ((b - C.1 35 i) / 365, C) := by
  unfold f_X0_age mI
  rw [kid_y C hi, bi_]
  simp only [z01, reduceIte, ckI hi (show 8 ≤ 100000 by omega), clI (show i < 2 ^ 31 by omega)]
theorem age_r {R : mm_M} {i : Nat} (hi : i < 8) (b : Int32) : f_X12_ageOn (nI i) b R = some ((b - R.1 10 i) / 365, R) := by
  unfold f_X12_ageOn mI
  simp only [ckI hi (show 8 ≤ 100000 by omega), clI (show i < 2 ^ 31 by omega)]
def lookOf (g gs bo : Nat → Int32) (i : Nat) (b : Int32) (k : Nat) : Int32 := if k = 0 then (b - bo i) / 365 else g (12 * i + k / 2)
theorem looks_c {C : mm_M} {i k : Nat} (hi : i < 8) (b : Int32) (hk : C.1 36 i = nI k) (hk2 : k ≤ 12) : f_X0_looks (nI i) b C = some (lookOf (C.1 37) (C.1 36) (C.1 35) i b k, C) := by
  unfold f_X0_looks f_X0_looks_29 lookOf
  rw [kid_y C hi, bi_, age_c hi]
  by_cases k0 : k = 0
  · subst k0
    simp only [mI, z01, reduceIte, ckI hi (show 8 ≤ 100000 by omega), clI (show i < 2 ^ 31 by omega), hk, show nI 0 < 1 by decide +kernel, bi_]
  · simp only [mI, z01, reduceIte, ckI hi (show 8 ≤ 100000 by omega), clI (show i < 2 ^ 31 by omega), hk, show ¬ nI k < 1 from nI_nlt (b := 1) (by omega) (by omega), show nI k ≤ 12 from nI_le (b := 12) hk2 (by decide), show nI k / 2 = nI (k / 2) from pk_div (d := 2) (by omega) (by decide) (by decide), i12m, ckI (show 12 * i + k / 2 < 96 by omega) (show 96 ≤ 100000 by omega), clI (show 12 * i + k / 2 < 2 ^ 31 by omega), k0]
theorem looks_r {R : mm_M} {i k : Nat} (hi : i < 8) (b : Int32) (hk : R.1 11 i = nI k) (hk2 : k ≤ 12) : f_X12_looksOn (nI i) b R = some (lookOf (R.1 12) (R.1 11) (R.1 10) i b k, R) := by
  unfold f_X12_looksOn lookOf
  rw [age_r hi]
  by_cases k0 : k = 0
  · subst k0
    simp only [mI, reduceIte, ckI hi (show 8 ≤ 100000 by omega), clI (show i < 2 ^ 31 by omega), hk, show nI 0 = 0 by decide +kernel, bi_]
  · simp only [mI, reduceIte, ckI hi (show 8 ≤ 100000 by omega), clI (show i < 2 ^ 31 by omega), hk, show ¬ nI k = 0 from nI_ne0 (by omega) (by omega), show nI k / 2 = nI (k / 2) from pk_div (d := 2) (by omega) (by decide) (by decide), i12n, ckI (show 12 * i + k / 2 < 96 by omega) (show 96 ≤ 100000 by omega), clI (show 12 * i + k / 2 < 2 ^ 31 by omega), k0]
theorem ok_childOf (a b : Int32) : op_i Rel (f_X11_childOf a b) (f_X12_childOf a b) := by
  intro C R h
  unfold f_X12_childOf
  rw [let_]
  have h := rel_t h 0
  generalize sI R 0 0 0 = R at h ⊢
  show ends _ _
  unfold f_X11_childOf
  try unfold mI
  have h' := h
  obtain ⟨⟨⟨bd, bn, bt, bu, bv, bw, bl⟩, ⟨sa, sb, sc, sd, se, sf, sg, sh⟩, ⟨ka, kb, kc, kd, ke⟩, ⟨ta, tb, tc, td, te, tf, tg⟩, ⟨ra, rb, rc, rd, re_, rf⟩, ⟨qa, qb, qc, qd, qe⟩⟩, hr, hl, hw, d, n, t, u, v, w, ⟨⟨⟨id1, id2⟩, ⟨in1, in2⟩, ⟨it1, it2⟩, ⟨iu1, iu2⟩, ⟨iv1, iv2⟩, ⟨iw1, iw2⟩, ilv⟩, jS, jK, jT, jR, jC, jB, jM, jD, jL⟩, hrule, hhome⟩ := h'
  unfold f_X11_childOf_52
  simp only [bi_id]
  have y0 : (0 : Int32) ≤ 0 := by decide +kernel
  have y1 : ¬ (0 : Int32) ≤ -1 := by decide +kernel
  have y5 : ¬ (0 : Int32) ≤ -5 := by decide +kernel
  rcases ix_of a (n := 8) (by omega) with ⟨i, hi, rfl⟩ | ha
  · rw [kid_y C hi, bi_]
    simp only [z01, reduceIte, ckI hi (show 8 ≤ 100000 by omega), clI (show i < 2 ^ 31 by omega), ka]
    obtain ⟨m1, m2, ⟨g, m3, m4, m5⟩, m6⟩ := jK i hi
    by_cases e0 : R.1 9 i = 0
    · rw [if_pos e0, lacks_0 hi e0, bi_, if_neg y5]
      exact ref5 h
    · rw [if_neg e0, lacks_y hi e0, bi_, if_pos y0]
      rcases ix_of b (n := 2) (by omega) with ⟨j, hj, rfl⟩ | hb
      · rw [in_jx (n := 1) R (by omega) rfl hj, bi_]
        simp only [z01, reduceIte, mI, bd, age_c hi, age_r hi, looks_c hi (R.1 0 1) (show C.1 36 i = nI g by rw [kc]; exact m3) m5, looks_r hi (R.1 0 1) m3 m5, kb, kc, kd]
        rcases (show j = 0 ∨ j = 1 by omega) with rfl | rfl
        · simp only [show nI 0 = 0 by decide +kernel, reduceIte]
          exact ends_of h
        · simp only [show (nI 1 = 0) = False by decide +kernel, show (nI 1 = 1) = True by decide +kernel, reduceIte]
          exact ends_of h
      · rw [in_ix (n := 1) R (by omega) rfl hb, bi_, if_pos rfl]
        have b0 : ¬ b = 0 := by
          rintro rfl
          rcases hb with q | q
          · exact absurd q (by decide +kernel)
          · exact absurd q (by decide +kernel)
        have b1 : ¬ b = 1 := by
          rintro rfl
          rcases hb with q | q
          · exact absurd q (by decide +kernel)
          · exact absurd q (by decide +kernel)
        rw [if_neg b0, if_neg b1]
        exact ref2 h
  · rw [kid_n C ha, lacks_n ha, bi_, bi_, if_pos rfl, if_neg y1]
    exact ref1 h

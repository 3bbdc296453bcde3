theorem ok_letter (a : Int32) : op_i Rel (f_X11_letter a) (f_X12_letter a) := by
  intro C R h
  unfold f_X12_letter
  rw [let_]
  have h := rel_t h 0
  generalize sI R 0 0 0 = R at h ⊢
  show ends _ _
  unfold f_X11_letter
  try unfold mI
  have h' := h
  obtain ⟨⟨⟨bd, bn, bt, bu, bv, bw, bl⟩, ⟨sa, sb, sc, sd, se, sf, sg, sh⟩, ⟨ka, kb, kc, kd, ke⟩, ⟨ta, tb, tc, td, te, tf, tg⟩, ⟨ra, rb, rc, rd, re_, rf⟩, ⟨qa, qb, qc, qd, qe⟩⟩, hr, hl, hw, d, n, t, u, v, w, ⟨⟨⟨id1, id2⟩, ⟨in1, in2⟩, ⟨it1, it2⟩, ⟨iu1, iu2⟩, ⟨iv1, iv2⟩, ⟨iw1, iw2⟩, ilv⟩, jS, jK, jT, jR, jC, jB, jM, jD, jL⟩, hrule, hhome⟩ := h'
  have hn := bn.trans in1
  rcases ix_of a (n := n) (by omega) with ⟨j, hj, rfl⟩ | ha
  · rw [has_y hn in2 hj, isShop_y in1 in2 hj, bi_, bi_]
    simp only [z01, reduceIte, ckI (show j < 40 by omega) (show 40 ≤ 100000 by omega), clI (show j < 2 ^ 31 by omega), re_]
    by_cases e : R.1 47 j = 0
    · rw [if_pos e, if_pos e]
      exact ends_of h
    · rw [if_neg e, if_neg e]
      exact ends_of h
  · rw [has_n hn ha, isShop_n in1 in2 ha, bi_, bi_, if_pos rfl, if_pos rfl, bi_id, bi_id]
    exact ref1 h
theorem sub1 {a : Nat} (h : 1 ≤ a) : nI a - 1 = nI (a - 1) := pk_sub (b := 1) h
theorem add1 (a : Nat) : nI a + 1 = nI (a + 1) := nI_add a 1
theorem c1le {a : Nat} (h : 1 ≤ a) (h2 : a < 2 ^ 31) : (1 : Int32) ≤ nI a := nI_le (a := 1) h h2
theorem ok_sell (a : Int32) : op_i Rel (f_X11_sell a) (f_X12_sell a) := by
  intro C R h
  unfold f_X12_sell
  rw [let_]
  have h := rel_t h 0
  generalize sI R 0 0 0 = R at h ⊢
  show ends _ _
  unfold f_X11_sell
  try unfold mI
  have h' := h
  obtain ⟨⟨⟨bd, bn, bt, bu, bv, bw, bl⟩, ⟨sa, sb, sc, sd, se, sf, sg, sh⟩, ⟨ka, kb, kc, kd, ke⟩, ⟨ta, tb, tc, td, te, tf, tg⟩, ⟨ra, rb, rc, rd, re_, rf⟩, ⟨qa, qb, qc, qd, qe⟩⟩, hr, hl, hw, d, n, t, u, v, w, ⟨⟨⟨id1, id2⟩, ⟨in1, in2⟩, ⟨it1, it2⟩, ⟨iu1, iu2⟩, ⟨iv1, iv2⟩, ⟨iw1, iw2⟩, ilv⟩, jS, jK, jT, jR, jC, jB, jM, jD, jL⟩, hrule, hhome⟩ := h'
  have hn := bn.trans in1
  rcases ix_of a (n := n) (by omega) with ⟨j, hj, rfl⟩ | ha
  · obtain ⟨p1, p2, p3, p4, p5, p6, o, p7, p8, p9, e0, p11, p10⟩ := jS.1 j hj
    have hd := bd
    unfold f_X6_ownedSince mI
    simp only [has_y hn in2 hj, isShop_y in1 in2 hj, bi_, z01, reduceIte, ckI (show j < 40 by omega) (show 40 ≤ 100000 by omega), clI (show j < 2 ^ 31 by omega), sg, p7, c1le p8 (by omega), i6m, i6n, sub1 (show 1 ≤ 6 * j + o by omega), ckI (show 6 * j + o - 1 < 240 by omega) (show 240 ≤ 100000 by omega), clI (show 6 * j + o - 1 < 2 ^ 31 by omega), sh, bd, id1, bi_id]
    by_cases e : R.1 8 (6 * j + o - 1) = nI d
    · rw [if_pos e, if_pos e]
      exact ref3 h
    · rw [if_neg e, if_neg e]
      by_cases e6 : o = 6
      · subst e6
        rw [if_neg (by decide +kernel), if_pos (by rfl)]
        exact ref6 h
      · rw [if_pos (show nI o < 6 from nI_lt (b := 6) (by omega) (by decide)), if_neg (show ¬ nI o = 6 from fun q => e6 ((nI_eq (b := 6) (by omega) (by decide)).mp q))]
        unfold f_X6_addOwner mI
        simp only [has_y hn in2 hj, bi_, z01, reduceIte, ckI (show j < 40 by omega) (show 40 ≤ 100000 by omega), clI (show j < 2 ^ 31 by omega), sg, p7, show nI o < 6 from nI_lt (b := 6) (by omega) (by decide), i6m, i6n, ckI (show 6 * j + o < 240 by omega) (show 240 ≤ 100000 by omega), clI (show 6 * j + o < 2 ^ 31 by omega), let_, s1, upd_at, Nat.reduceEqDiff, add1, eq_self]
        refine ends_of ?_
        unfold Rel rBase Inv iScal
        simp only [s1, s2, l1, l2, upd_at, Nat.reduceEqDiff, reduceIte]
        refine ⟨⟨⟨bd, bn, bt, bu, bv, bw, bl⟩, ⟨sa, sb, sc, sd, se, sf, by rw [sg], by rw [sh]⟩, ⟨ka, kb, kc, kd, ke⟩, ⟨ta, tb, tc, td, te, tf, tg⟩, ⟨ra, rb, rc, rd, re_, rf⟩, ⟨qa, qb, qc, qd, qe⟩⟩, hr, hl, hw, d, n, t, u, v, w, ⟨⟨⟨id1, id2⟩, ⟨in1, in2⟩, ⟨it1, it2⟩, ⟨iu1, iu2⟩, ⟨iv1, iv2⟩, ⟨iw1, iw2⟩, ilv⟩, ⟨fun k hk => ?_, fun k hk => ?_⟩, jK, ⟨fun k hk => ?_, jT.2⟩, jR, jC, jB, jM, jD, jL⟩, hrule, hhome⟩
        · obtain ⟨m1, m2, m3, m4, m5, m6, o', m7, m8, m9, e1, m11, m10⟩ := jS.1 k hk
          by_cases ek : k = j
          · subst ek
            rw [p7] at m7
            obtain rfl : o = o' := (nI_eq (by omega) (by omega)).mp m7
            rw [p11] at m11
            refine ⟨m1, m2, m3, m4, m5, m6, o + 1, ?_, by omega, by omega, e0, ?_, fun i hi => ?_⟩
            · rw [upd_at, if_pos rfl]
            · rw [upd_at, if_neg (by omega)]
              exact p11
            · rw [upd_at]
              split
              · obtain ⟨z, z1, z2, z3⟩ := p10 0 (by omega)
                exact ⟨d, rfl, by omega, by omega⟩
              · exact p10 i (by omega)
          · refine ⟨m1, m2, m3, m4, m5, m6, o', ?_, m8, m9, e1, ?_, fun i hi => ?_⟩
            · rw [upd_at, if_neg ek]
              exact m7
            · rw [upd_at, if_neg (by omega)]
              exact m11
            · rw [upd_at, if_neg (by omega)]
              exact m10 i hi
        · rw [upd_at, if_neg (by omega)]
          exact jS.2 k hk
        · obtain ⟨s, c, f, m1, m2, m3, m4, m5, m6, m7, ⟨m8, m9, m10⟩, m11⟩ := jT.1 k hk
          refine ⟨s, c, f, m1, m2, m3, m4, m5, m6, m7, ⟨m8, ?_, m10⟩, m11⟩
          rw [upd_at, if_neg (by omega)]
          exact m9
  · rw [has_n hn ha, isShop_n in1 in2 ha, bi_, bi_, if_pos rfl, if_pos rfl, bi_id, bi_id]
    exact ref1 h

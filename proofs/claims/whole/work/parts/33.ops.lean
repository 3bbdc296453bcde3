theorem num_of {a lo hi : Int32} (l h : Nat) (hl : lo = nI l) (hh : hi = nI h) (hb : h < 2 ^ 31) (hlb : l < 2 ^ 31) (h1 : lo ≤ a) (h2 : a ≤ hi) : rng a l h := by
  subst hl hh
  obtain ⟨e, he, rfl⟩ := nI_of (x := a) (by rw [Int32.lt_iff_toInt_lt]; rw [Int32.le_iff_toInt_le, nI_toInt hlb] at h1; have : (0 : Int32).toInt = 0 := rfl; omega)
  exact ⟨e, rfl, (nI_leI hlb he).mp h1, (nI_leI he hb).mp h2⟩
theorem b01 {a : Int32} (h : a = 0 ∨ a = 1) : a &&& 1 = a ∧ rng a 0 1 := by
  rcases h with rfl | rfl
  · exact ⟨rfl, 0, rfl, by omega, by omega⟩
  · exact ⟨rfl, 1, rfl, by omega, by omega⟩
theorem rng01 {a : Int32} (h : rng a 0 1) : a = 0 ∨ a = 1 := by
  obtain ⟨k, rfl, _, h⟩ := h
  rcases (show k = 0 ∨ k = 1 by omega) with rfl | rfl
  · exact Or.inl rfl
  · exact Or.inr rfl
theorem ok_open (a b : Int32) (hb : b = 0 ∨ b = 1) : op_i Rel (f_X11_open a b) (f_X12_open a b) := by
  intro C R h
  unfold f_X12_open
  rw [let_]
  have h := rel_t h 0
  generalize sI R 0 0 0 = R at h ⊢
  show ends _ _
  unfold f_X11_open
  try unfold mI
  have h' := h
  obtain ⟨⟨⟨bd, bn, bt, bu, bv, bw, bl⟩, ⟨sa, sb, sc, sd, se, sf, sg, sh⟩, ⟨ka, kb, kc, kd, ke⟩, ⟨ta, tb, tc, td, te, tf, tg⟩, ⟨ra, rb, rc, rd, re_, rf⟩, ⟨qa, qb, qc, qd, qe⟩⟩, hr, hl, hw, d, n, t, u, v, w, ⟨⟨⟨id1, id2⟩, ⟨in1, in2⟩, ⟨it1, it2⟩, ⟨iu1, iu2⟩, ⟨iv1, iv2⟩, ⟨iw1, iw2⟩, ilv⟩, jS, jK, jT, jR, jC, jB, jM, jD, jL⟩, hrule, hhome⟩ := h'
  obtain ⟨hb1, hb2⟩ := b01 hb
  have hn := bn.trans in1
  rcases ix_of a (n := n) (by omega) with ⟨j, hj, rfl⟩ | ha
  · rw [has_y hn in2 hj, isShop_y in1 in2 hj, bi_, bi_]
    simp only [z01, reduceIte, ckI (show j < 40 by omega) (show 40 ≤ 100000 by omega), let_, clI (show j < 2 ^ 31 by omega), sf, hb1]
    by_cases e : R.1 6 j = b
    · rw [if_pos e, if_pos e]
      refine ends_of ?_
      have e2 : upd (R.1 6) j b = R.1 6 := by rw [← e]; exact upd_id _ _
      unfold Rel rBase Inv iScal
      simp only [s1, s2, l1, l2, upd_at, Nat.reduceEqDiff, reduceIte]
      rw [e2]
      exact ⟨⟨⟨bd, bn, bt, bu, bv, bw, bl⟩, ⟨sa, sb, sc, sd, se, sf, sg, sh⟩, ⟨ka, kb, kc, kd, ke⟩, ⟨ta, tb, tc, td, te, tf, tg⟩, ⟨ra, rb, rc, rd, re_, rf⟩, ⟨qa, qb, qc, qd, qe⟩⟩, hr, hl, hw, d, n, t, u, v, w, ⟨⟨⟨id1, id2⟩, ⟨in1, in2⟩, ⟨it1, it2⟩, ⟨iu1, iu2⟩, ⟨iv1, iv2⟩, ⟨iw1, iw2⟩, ilv⟩, jS, jK, jT, jR, jC, jB, jM, jD, jL⟩, hrule, hhome⟩
    · rw [if_neg e, if_neg e]
      refine ends_of ?_
      unfold Rel rBase Inv iScal
      simp only [s1, s2, l1, l2, upd_at, Nat.reduceEqDiff, reduceIte]
      refine ⟨⟨⟨bd, bn, bt, bu, bv, bw, bl⟩, ⟨sa, sb, sc, sd, se, by rw [sf], sg, sh⟩, ⟨ka, kb, kc, kd, ke⟩, ⟨ta, tb, tc, td, te, tf, tg⟩, ⟨ra, rb, rc, rd, re_, rf⟩, ⟨qa, qb, qc, qd, qe⟩⟩, hr, hl, hw, d, n, t, u, v, w, ⟨⟨⟨id1, id2⟩, ⟨in1, in2⟩, ⟨it1, it2⟩, ⟨iu1, iu2⟩, ⟨iv1, iv2⟩, ⟨iw1, iw2⟩, ilv⟩, ?_, jK, jT, jR, jC, jB, jM, jD, jL⟩, hrule, hhome⟩
      refine ⟨fun k hk => ?_, jS.2⟩
      obtain ⟨p1, p2, p3, p4, p5, p6, p7⟩ := jS.1 k hk
      refine ⟨p1, p2, p3, p4, p5, ?_, p7⟩
      unfold upd
      split
      · exact hb2
      · exact p6
  · rw [has_n hn ha, isShop_n in1 in2 ha, bi_, bi_, if_pos rfl, if_pos rfl, bi_id, bi_id]
    exact ref1 h
theorem ok_leave (a : Int32) : op_i Rel (f_X11_leave a) (f_X12_leave a) := by
  intro C R h
  unfold f_X12_leave
  rw [let_]
  have h := rel_t h 0
  generalize sI R 0 0 0 = R at h ⊢
  show ends _ _
  unfold f_X11_leave
  try unfold mI
  have h' := h
  obtain ⟨⟨⟨bd, bn, bt, bu, bv, bw, bl⟩, ⟨sa, sb, sc, sd, se, sf, sg, sh⟩, ⟨ka, kb, kc, kd, ke⟩, ⟨ta, tb, tc, td, te, tf, tg⟩, ⟨ra, rb, rc, rd, re_, rf⟩, ⟨qa, qb, qc, qd, qe⟩⟩, hr, hl, hw, d, n, t, u, v, w, ⟨⟨⟨id1, id2⟩, ⟨in1, in2⟩, ⟨it1, it2⟩, ⟨iu1, iu2⟩, ⟨iv1, iv2⟩, ⟨iw1, iw2⟩, ilv⟩, jS, jK, jT, jR, jC, jB, jM, jD, jL⟩, hrule, hhome⟩ := h'
  rcases out_of (a := a) (lo := 0) (hi := 2000) C with ⟨q1, q2, q3⟩ | ⟨q1, q2, q3⟩ | ⟨q1, q3⟩
  · rw [q3, bi_, if_pos rfl, if_pos q1, if_pos q2]
    simp only [let_, bl]
    refine ends_of ?_
    unfold Rel rBase Inv iScal
    simp only [s1, s2, l1, l2, upd_at, Nat.reduceEqDiff, reduceIte]
    exact ⟨⟨⟨bd, bn, bt, bu, bv, bw, trivial⟩, ⟨sa, sb, sc, sd, se, sf, sg, sh⟩, ⟨ka, kb, kc, kd, ke⟩, ⟨ta, tb, tc, td, te, tf, tg⟩, ⟨ra, rb, rc, rd, re_, rf⟩, ⟨qa, qb, qc, qd, qe⟩⟩, hr, hl, hw, d, n, t, u, v, w, ⟨⟨⟨id1, id2⟩, ⟨in1, in2⟩, ⟨it1, it2⟩, ⟨iu1, iu2⟩, ⟨iv1, iv2⟩, ⟨iw1, iw2⟩, num_of 0 2000 rfl rfl (by omega) (by omega) q1 q2⟩, jS, jK, jT, jR, jC, jB, jM, jD, jL⟩, hrule, hhome⟩
  · rw [q3, bi_, if_neg (by rw [z6]; exact id), if_pos q1, if_neg q2, bi_id, bi_id]
    exact ref6 h
  · rw [q3, bi_, if_neg (by rw [z4]; exact id), if_neg q1, bi_id, bi_id]
    exact ref4 h
theorem kind_y {j : Nat} (M : mm_M) (hj : j < 5) : f_X11_isKind (nI j) M = some (1, M) := by
  unfold f_X11_isKind
  rw [if_neg (nI_pos (by omega)), if_neg (show ¬ (5 : Int32) ≤ nI j from nI_ge (b := 5) hj (by decide))]
theorem kind_n {a : Int32} (M : mm_M) (ha : a < 0 ∨ nI 5 ≤ a) : f_X11_isKind a M = some (0, M) := by
  unfold f_X11_isKind
  by_cases h0 : a < 0
  · rw [if_pos h0]
  · rw [if_neg h0, if_pos (by rcases ha with q | q; exact absurd q h0; exact q)]
theorem ward_y {j : Nat} (M : mm_M) (hj : j < 4) : f_X11_isWard (nI j) M = some (1, M) := by
  unfold f_X11_isWard
  rw [if_neg (nI_pos (by omega)), if_neg (show ¬ (4 : Int32) ≤ nI j from nI_ge (b := 4) hj (by decide))]
theorem ward_n {a : Int32} (M : mm_M) (ha : a < 0 ∨ nI 4 ≤ a) : f_X11_isWard a M = some (0, M) := by
  unfold f_X11_isWard
  by_cases h0 : a < 0
  · rw [if_pos h0]
  · rw [if_neg h0, if_pos (by rcases ha with q | q; exact absurd q h0; exact q)]
theorem kid_y {j : Nat} (M : mm_M) (hj : j < 8) : f_X0_has (nI j) M = some (1, M) := by
  unfold f_X0_has
  rw [if_neg (nI_pos (by omega)), if_neg (show ¬ (8 : Int32) ≤ nI j from nI_ge (b := 8) hj (by decide))]
theorem kid_n {a : Int32} (M : mm_M) (ha : a < 0 ∨ nI 8 ≤ a) : f_X0_has a M = some (0, M) := by
  unfold f_X0_has
  by_cases h0 : a < 0
  · rw [if_pos h0]
  · rw [if_neg h0, if_pos (by rcases ha with q | q; exact absurd q h0; exact q)]
theorem ok_cost (a b : Int32) : op_i Rel (f_X11_cost a b) (f_X12_cost a b) := by
  intro C R h
  unfold f_X12_cost
  rw [let_]
  have h := rel_t h 0
  generalize sI R 0 0 0 = R at h ⊢
  show ends _ _
  unfold f_X11_cost
  try unfold mI
  have h' := h
  obtain ⟨⟨⟨bd, bn, bt, bu, bv, bw, bl⟩, ⟨sa, sb, sc, sd, se, sf, sg, sh⟩, ⟨ka, kb, kc, kd, ke⟩, ⟨ta, tb, tc, td, te, tf, tg⟩, ⟨ra, rb, rc, rd, re_, rf⟩, ⟨qa, qb, qc, qd, qe⟩⟩, hr, hl, hw, d, n, t, u, v, w, ⟨⟨⟨id1, id2⟩, ⟨in1, in2⟩, ⟨it1, it2⟩, ⟨iu1, iu2⟩, ⟨iv1, iv2⟩, ⟨iw1, iw2⟩, ilv⟩, jS, jK, jT, jR, jC, jB, jM, jD, jL⟩, hrule, hhome⟩ := h'
  rcases ix_of a (n := 5) (by omega) with ⟨j, hj, rfl⟩ | ha
  · rw [kind_y C hj, in_jx (n := 4) R (by omega) rfl hj, bi_, bi_]
    simp only [z01, reduceIte]
    rcases out_of (a := b) (lo := 0) (hi := 500) C with ⟨q1, q2, q3⟩ | ⟨q1, q2, q3⟩ | ⟨q1, q3⟩
    · rw [q3, bi_, if_pos rfl, if_pos q1, if_pos q2]
      simp only [ckI hj (show 5 ≤ 100000 by omega), let_, clI (show j < 2 ^ 31 by omega), rd]
      refine ends_of ?_
      have hb := num_of 0 500 rfl rfl (by omega) (by omega) q1 q2
      unfold Rel rBase Inv iScal
      simp only [s1, s2, l1, l2, upd_at, Nat.reduceEqDiff, reduceIte]
      refine ⟨⟨⟨bd, bn, bt, bu, bv, bw, bl⟩, ⟨sa, sb, sc, sd, se, sf, sg, sh⟩, ⟨ka, kb, kc, kd, ke⟩, ⟨ta, tb, tc, td, te, tf, tg⟩, ⟨ra, rb, rc, by rw [rd], re_, rf⟩, ⟨qa, qb, qc, qd, qe⟩⟩, hr, hl, hw, d, n, t, u, v, w, ⟨⟨⟨id1, id2⟩, ⟨in1, in2⟩, ⟨it1, it2⟩, ⟨iu1, iu2⟩, ⟨iv1, iv2⟩, ⟨iw1, iw2⟩, ilv⟩, jS, jK, jT, jR, jC, jB, ?_, jD, jL⟩, hrule, hhome⟩
      intro k hk
      unfold upd
      split
      · exact hb
      · exact jM k hk
    · rw [q3, bi_, if_neg (by rw [z6]; exact id), if_pos q1, if_neg q2, bi_id, bi_id]
      exact ref6 h
    · rw [q3, bi_, if_neg (by rw [z4]; exact id), if_neg q1, bi_id, bi_id]
      exact ref4 h
  · rw [kind_n C ha, in_ix (n := 4) R (by omega) rfl ha, bi_, bi_, if_pos rfl, if_pos rfl, bi_id, bi_id]
    exact ref2 h
theorem i01m (a b : Nat) : nI a * 40 + nI b = nI (40 * a + b) := by
  rw [show (40 : Int32) = nI 40 from rfl, pk_mul, nI_add, Nat.mul_comm]
theorem i01n (a b : Nat) : 40 * nI a + nI b = nI (40 * a + b) := by
  rw [show (40 : Int32) = nI 40 from rfl, pk_mul, nI_add]
theorem i12m (a b : Nat) : nI a * 12 + nI b = nI (12 * a + b) := by
  rw [show (12 : Int32) = nI 12 from rfl, pk_mul, nI_add, Nat.mul_comm]
theorem i12n (a b : Nat) : 12 * nI a + nI b = nI (12 * a + b) := by
  rw [show (12 : Int32) = nI 12 from rfl, pk_mul, nI_add]
theorem i6m (a b : Nat) : nI a * 6 + nI b = nI (6 * a + b) := by
  rw [show (6 : Int32) = nI 6 from rfl, pk_mul, nI_add, Nat.mul_comm]
theorem i6n (a b : Nat) : 6 * nI a + nI b = nI (6 * a + b) := by
  rw [show (6 : Int32) = nI 6 from rfl, pk_mul, nI_add]
theorem ok_known (a b c : Int32) (hc : c = 0 ∨ c = 1) : op_i Rel (f_X11_known a b c) (f_X12_known a b c) := by
  intro C R h
  unfold f_X12_known
  rw [let_]
  have h := rel_t h 0
  generalize sI R 0 0 0 = R at h ⊢
  show ends _ _
  unfold f_X11_known
  try unfold mI
  have h' := h
  obtain ⟨⟨⟨bd, bn, bt, bu, bv, bw, bl⟩, ⟨sa, sb, sc, sd, se, sf, sg, sh⟩, ⟨ka, kb, kc, kd, ke⟩, ⟨ta, tb, tc, td, te, tf, tg⟩, ⟨ra, rb, rc, rd, re_, rf⟩, ⟨qa, qb, qc, qd, qe⟩⟩, hr, hl, hw, d, n, t, u, v, w, ⟨⟨⟨id1, id2⟩, ⟨in1, in2⟩, ⟨it1, it2⟩, ⟨iu1, iu2⟩, ⟨iv1, iv2⟩, ⟨iw1, iw2⟩, ilv⟩, jS, jK, jT, jR, jC, jB, jM, jD, jL⟩, hrule, hhome⟩ := h'
  obtain ⟨hb1, hb2⟩ := b01 hc
  have hn := bn.trans in1
  rcases ix_of a (n := 8) (by omega) with ⟨i, hi, rfl⟩ | ha
  · rw [kid_y C hi, in_jx (n := 7) R (by omega) rfl hi, bi_, bi_]
    rcases ix_of b (n := n) (by omega) with ⟨j, hj, rfl⟩ | hb
    · simp only [z01, reduceIte]
      rw [has_y hn in2 hj, isShop_y in1 in2 hj, bi_, bi_]
      simp only [z01, reduceIte, ckI hi (show 8 ≤ 100000 by omega), clI (show i < 2 ^ 31 by omega), ka, bi_id]
      by_cases e0 : R.1 9 i = 0
      · rw [if_pos e0, if_pos e0]
        exact ref5 h
      · rw [if_neg e0, if_neg e0]
        unfold f_X0_setKnown mI
        rw [kid_y C hi, bi_]
        have f1 : ¬ nI j < 0 := nI_pos (by omega)
        have f2 : ¬ (40 : Int32) ≤ nI j := nI_ge (b := 40) (by omega) (by decide)
        simp only [z01, reduceIte, f1, f2, i01m, i01n, ckI (show 40 * i + j < 320 by omega) (show 320 ≤ 100000 by omega), let_, clI (show 40 * i + j < 2 ^ 31 by omega), ke, hb1]
        by_cases e : R.1 13 (40 * i + j) = c
        · rw [if_pos e, if_pos e, bi_, if_pos rfl]
          refine ends_of ?_
          have e2 : upd (R.1 13) (40 * i + j) c = R.1 13 := by rw [← e]; exact upd_id _ _
          unfold Rel rBase Inv iScal
          simp only [s1, s2, l1, l2, upd_at, Nat.reduceEqDiff, reduceIte]
          rw [e2]
          exact ⟨⟨⟨bd, bn, bt, bu, bv, bw, bl⟩, ⟨sa, sb, sc, sd, se, sf, sg, sh⟩, ⟨ka, kb, kc, kd, ke⟩, ⟨ta, tb, tc, td, te, tf, tg⟩, ⟨ra, rb, rc, rd, re_, rf⟩, ⟨qa, qb, qc, qd, qe⟩⟩, hr, hl, hw, d, n, t, u, v, w, ⟨⟨⟨id1, id2⟩, ⟨in1, in2⟩, ⟨it1, it2⟩, ⟨iu1, iu2⟩, ⟨iv1, iv2⟩, ⟨iw1, iw2⟩, ilv⟩, jS, jK, jT, jR, jC, jB, jM, jD, jL⟩, hrule, hhome⟩
        · rw [if_neg e, if_neg e, bi_, if_neg (by rw [z01]; exact id)]
          refine ends_of ?_
          unfold Rel rBase Inv iScal
          simp only [s1, s2, l1, l2, upd_at, Nat.reduceEqDiff, reduceIte]
          refine ⟨⟨⟨bd, bn, bt, bu, bv, bw, bl⟩, ⟨sa, sb, sc, sd, se, sf, sg, sh⟩, ⟨ka, kb, kc, kd, by rw [ke]⟩, ⟨ta, tb, tc, td, te, tf, tg⟩, ⟨ra, rb, rc, rd, re_, rf⟩, ⟨qa, qb, qc, qd, qe⟩⟩, hr, hl, hw, d, n, t, u, v, w, ⟨⟨⟨id1, id2⟩, ⟨in1, in2⟩, ⟨it1, it2⟩, ⟨iu1, iu2⟩, ⟨iv1, iv2⟩, ⟨iw1, iw2⟩, ilv⟩, jS, ?_, jT, jR, jC, jB, jM, jD, jL⟩, hrule, hhome⟩
          intro k hk
          obtain ⟨p1, p2, p3, p4, p5⟩ := jK k hk
          refine ⟨p1, p2, p3, p4, fun s hs => ?_⟩
          unfold upd
          split
          · exact hb2
          · exact p5 s hs
    · simp only [z01, reduceIte]
      rw [has_n hn hb, isShop_n in1 in2 hb, bi_, bi_, if_pos rfl, if_pos rfl]
      unfold f_X11_known_22 f_X12_known_23
      rw [bi_id, bi_id]
      exact ref1 h
  · rw [kid_n C ha, in_ix (n := 7) R (by omega) rfl ha, bi_, bi_, if_pos rfl, if_pos rfl]
    unfold f_X11_known_22 f_X12_known_23
    rw [bi_id, bi_id]
    exact ref1 h

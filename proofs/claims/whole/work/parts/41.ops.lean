theorem ok_letters (a : Int32) : op_i Rel (f_X11_letters a) (f_X12_letters a) := by
  intro C R h
  unfold f_X12_letters
  rw [let_]
  have h := rel_t h 0
  generalize sI R 0 0 0 = R at h ⊢
  show ends _ _
  unfold f_X11_letters
  try unfold mI
  have h' := h
  obtain ⟨⟨⟨bd, bn, bt, bu, bv, bw, bl⟩, ⟨sa, sb, sc, sd, se, sf, sg, sh⟩, ⟨ka, kb, kc, kd, ke⟩, ⟨ta, tb, tc, td, te, tf, tg⟩, ⟨ra, rb, rc, rd, re_, rf⟩, ⟨qa, qb, qc, qd, qe⟩⟩, hr, hl, hw, d, n, t, u, v, w, ⟨⟨⟨id1, id2⟩, ⟨in1, in2⟩, ⟨it1, it2⟩, ⟨iu1, iu2⟩, ⟨iv1, iv2⟩, ⟨iw1, iw2⟩, ilv⟩, jS, jK, jT, jR, jC, jB, jM, jD, jL⟩, hrule, hhome⟩ := h'
  simp only [bi_id]
  have hS := hw.1
  have hc40 := cnt_le (R.1 15) 40
  have hz : (C.1 6 6 = 0) ↔ (R.1 0 17 = 0) := by
    rcases hw.2 with ⟨z1, z2⟩ | ⟨z1, z2, _⟩
    · exact ⟨fun _ => z2, fun _ => z1⟩
    · exact ⟨fun q => absurd q z1, fun q => absurd q z2⟩
  by_cases c0 : R.1 0 17 = 0
  · rw [if_pos c0, if_pos (hz.mpr c0)]
    exact ref5 h
  · rw [if_neg c0, if_neg (fun q => c0 (hz.mp q))]
    rcases out_of (a := a) (lo := 0) (hi := 99999) C with ⟨q1, q2, q3⟩ | ⟨q1, q2, q3⟩ | ⟨q1, q3⟩
    · rw [q3, bi_, if_pos rfl, if_pos q1, if_pos q2]
      obtain ⟨e, rfl, e1, e2⟩ := num_of (lo := 0) (hi := 99999) 0 99999 rfl rfl (by omega) (by omega) q1 q2
      have k1 := lcount f_X12_letters_77 (nI e) R 40 0 mm_fu (by omega) (fuGt (by omega))
      rw [show nI (cnt (R.1 15) 0) = 0 from rfl, show nI 0 = 0 from rfl] at k1
      rw [k1]
      unfold f_X12_letters_77 f_X12_noLetters f_X11_takeLettersAway
      have k2 := nolet_r 40 0 mm_fu R (by omega) (fuGt (by omega))
      have k3 := nolet_c 40 0 mm_fu C (by omega) (fuGt (by omega))
      rw [show nI 0 = 0 from rfl] at k2 k3
      rw [k2, k3, bv_, bv_, let_]
      unfold f_X11_giveLetters
      try unfold mI
      have e6 : (sI (sA C 16 (fill (C.1 16) 0 40 0)) 0 15 0).1 6 6 = nI (cnt (R.1 15) 40) := by
        simp only [s1, sA1, Nat.reduceEqDiff, reduceIte]
        exact hS
      have ed : nI (cnt (R.1 15) 40) / 2 = nI (cnt (R.1 15) 40 / 2) := pk_div (d := 2) (by omega) (by decide) (by decide)
      rw [e6, let_, let_, ed]
      obtain ⟨g, g1, g2, g3, g4⟩ := let_l (nI (cnt (R.1 15) 40)) 40 0 mm_fu mm_fu e (cnt (R.1 15) 40 / 2) (cnt (R.1 15) 40) (sI (sA C 16 (fill (C.1 16) 0 40 0)) 0 15 0) (sA R 47 (fill (R.1 47) 0 40 0)) (fill (R.1 47) 0 40 0) (by omega) (fuGt (by omega)) (fuGt (by omega)) e2 (by simp only [s1, sA1, Nat.reduceEqDiff, reduceIte]; exact rf) (by simp only [s1, sA1, Nat.reduceEqDiff, reduceIte, re_]) (by simp only [sA1, reduceIte]) (by simp only [sA1, Nat.reduceEqDiff, reduceIte]; exact Nat.add_zero _) (by omega) (fun p hp hp2 => if_pos ⟨hp, hp2⟩) (by simp only [s1, upd_at, reduceIte]; rfl) (fun p hp => ⟨0, if_pos ⟨Nat.zero_le _, hp⟩, by omega, by omega⟩)
      rw [show nI 0 = 0 from rfl] at g3 g4
      rw [g3, g4, bv_, ed]
      have g5 : (lt2 (sI (sA C 16 (fill (C.1 16) 0 40 0)) 0 15 0) g (nI (cnt g 40))).1 0 15 = nI (cnt (R.1 15) 40 / 2) := by
        simp only [lt2_1, Nat.reduceEqDiff, reduceIte, upd_at, g2]
        rw [show cnt (fill (R.1 47) 0 40 0) 0 = 0 from rfl, Nat.zero_add]
      rw [g5, sA_sA]
      refine ends_of ?_
      unfold Rel rBase Inv iScal
      simp only [s1, s2, l1, l2, sA1, sA2, lt2_1, upd_at, Nat.reduceEqDiff, reduceIte]
      exact ⟨⟨⟨bd, bn, bt, bu, bv, bw, bl⟩, ⟨sa, sb, sc, sd, se, sf, sg, sh⟩, ⟨ka, kb, kc, kd, ke⟩, ⟨ta, tb, tc, td, te, tf, tg⟩, ⟨ra, rb, rc, rd, trivial, rf⟩, ⟨qa, qb, qc, qd, qe⟩⟩, hr, rfl, hw, d, n, t, u, v, w, ⟨⟨⟨id1, id2⟩, ⟨in1, in2⟩, ⟨it1, it2⟩, ⟨iu1, iu2⟩, ⟨iv1, iv2⟩, ⟨iw1, iw2⟩, ilv⟩, jS, jK, jT, jR, jC, jB, jM, jD, g1⟩, hrule, hhome⟩
    · rw [q3, bi_, if_neg (by rw [z6]; exact id), if_pos q1, if_neg q2]
      exact ref6 h
    · rw [q3, bi_, if_neg (by rw [z4]; exact id), if_neg q1]
      exact ref4 h

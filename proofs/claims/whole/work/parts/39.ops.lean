theorem guess_l {i : Nat} (hi : i < 8) (x : Int32) (hx : rng x 0 25) (K : Int32 → Int32 → Int32 → mm_M → Option (Int32 × mm_M)) (K' : Int32 → Int32 → Int32 → mm_M → Option (Int32 × mm_M)) : ∀ (p nC nR q : Nat) (C R : mm_M), p < nC → p < nR → q + p ≤ 11 → C.1 37 = R.1 12 → (∀ j, j < 96 → rng (R.1 12 j) 0 25) → ∃ p' g, p' ≤ p ∧ (∀ j, j < 96 → rng (g j) 0 25) ∧ f_X0_addGuess_40 K nC (nI i) x (nI (12 * i)) (nI (12 * i + p)) (nI q) C = K (nI i) x (nI (12 * i + p')) (sA C 37 g) ∧ f_X12_guess_66 K' nR (nI i) x (nI p) R = K' (nI i) x (nI p') (sA R 12 g) := by
  intro p
  induction p with
  | zero =>
    intro nC nR q C R h1 h2 h3 h4 h5
    obtain ⟨nC, rfl⟩ : ∃ q, nC = q + 1 := ⟨nC - 1, by omega⟩
    obtain ⟨nR, rfl⟩ : ∃ q, nR = q + 1 := ⟨nR - 1, by omega⟩
    refine ⟨0, R.1 12, by omega, h5, ?_, ?_⟩
    · unfold f_X0_addGuess_40
      rw [if_neg (show ¬ (12 : Int32) ≤ nI q from nI_ge (b := 12) (by omega) (by decide)), if_pos (nI_le (by omega) (by omega)), ← h4, sA_id]
    · unfold f_X12_guess_66
      rw [if_pos (by decide +kernel), sA_id]
  | succ p ih =>
    intro nC nR q C R h1 h2 h3 h4 h5
    obtain ⟨nC, rfl⟩ : ∃ q, nC = q + 1 := ⟨nC - 1, by omega⟩
    obtain ⟨nR, rfl⟩ : ∃ q, nR = q + 1 := ⟨nR - 1, by omega⟩
    unfold f_X0_addGuess_40 f_X12_guess_66 mI
    rw [if_neg (show ¬ (12 : Int32) ≤ nI q from nI_ge (b := 12) (by omega) (by decide)), if_neg (show ¬ nI (12 * i + (p + 1)) ≤ nI (12 * i) from nI_ge (by omega) (by omega)), if_neg (nI_nle (n := p + 1) (by omega) (by omega)), i12n, sub1 (show 1 ≤ 12 * i + (p + 1) by omega)]
    simp only [ckI (show 12 * i + p + 1 - 1 < 96 by omega) (show 96 ≤ 100000 by omega), clI (show 12 * i + p + 1 - 1 < 2 ^ 31 by omega), ckI (show 12 * i + p + 1 < 96 by omega) (show 96 ≤ 100000 by omega), clI (show 12 * i + p + 1 < 2 ^ 31 by omega), let_, h4, show 12 * i + (p + 1) = 12 * i + p + 1 from rfl, pk_m1, add1]
    by_cases e : R.1 12 (12 * i + p + 1 - 1) ≤ x
    · refine ⟨p + 1, R.1 12, by omega, h5, ?_, ?_⟩
      · rw [if_pos e, ← h4, sA_id]
        rfl
      · rw [if_pos e, sA_id]
    · rw [if_neg e, if_neg e]
      obtain ⟨p', g, g1, g2, g3, g4⟩ := ih nC nR (q + 1) (sI C 37 (12 * i + p + 1) (R.1 12 (12 * i + p + 1 - 1))) (sI R 12 (12 * i + p + 1) (R.1 12 (12 * i + p + 1 - 1))) (by omega) (by omega) (by omega) (by simp only [s1, reduceIte, h4]) (by
        intro j hj
        simp only [s1, reduceIte, upd_at]
        split
        · exact h5 _ (by omega)
        · exact h5 _ hj)
      refine ⟨p', g, by omega, g2, ?_, ?_⟩
      · rw [g3, sI_sA, sA_sA]
      · rw [g4, sI_sA, sA_sA]
theorem ok_guess (a b : Int32) : op_i Rel (f_X11_guess a b) (f_X12_guess a b) := by
  intro C R h
  unfold f_X12_guess
  rw [let_]
  have h := rel_t h 0
  generalize sI R 0 0 0 = R at h ⊢
  show ends _ _
  unfold f_X11_guess
  try unfold mI
  have h' := h
  obtain ⟨⟨⟨bd, bn, bt, bu, bv, bw, bl⟩, ⟨sa, sb, sc, sd, se, sf, sg, sh⟩, ⟨ka, kb, kc, kd, ke⟩, ⟨ta, tb, tc, td, te, tf, tg⟩, ⟨ra, rb, rc, rd, re_, rf⟩, ⟨qa, qb, qc, qd, qe⟩⟩, hr, hl, hw, d, n, t, u, v, w, ⟨⟨⟨id1, id2⟩, ⟨in1, in2⟩, ⟨it1, it2⟩, ⟨iu1, iu2⟩, ⟨iv1, iv2⟩, ⟨iw1, iw2⟩, ilv⟩, jS, jK, jT, jR, jC, jB, jM, jD, jL⟩, hrule, hhome⟩ := h'
  unfold f_X11_guess_69 f_X12_guess_51
  simp only [bi_id]
  have y0 : (0 : Int32) ≤ 0 := by decide +kernel
  have y1 : ¬ (0 : Int32) ≤ -1 := by decide +kernel
  have y5 : ¬ (0 : Int32) ≤ -5 := by decide +kernel
  rcases ix_of a (n := 8) (by omega) with ⟨i, hi, rfl⟩ | ha
  · rw [kid_y C hi, bi_]
    simp only [z01, reduceIte, ckI hi (show 8 ≤ 100000 by omega), clI (show i < 2 ^ 31 by omega), ka, kc]
    obtain ⟨m1, m2, ⟨g, m3, m4, m5⟩, m6⟩ := jK i hi
    by_cases e0 : R.1 9 i = 0
    · rw [if_pos e0, lacks_0 hi e0, bi_, if_neg y5]
      exact ref5 h
    · rw [if_neg e0, lacks_y hi e0, bi_, if_pos y0]
      by_cases b8 : (8 : Int32) ≤ b
      · rw [if_pos b8, if_pos b8]
        by_cases b25 : (25 : Int32) < b
        · rw [if_pos b25, if_pos b25]
          exact ref6 h
        · rw [if_neg b25, if_neg b25]
          have hb : rng b 0 25 := by
            obtain ⟨k, k1, k2, k3⟩ := num_of (lo := 8) (hi := 25) 8 25 rfl rfl (by omega) (by omega) b8 (nlt_le.mp b25)
            exact ⟨k, k1, by omega, k3⟩
          simp only [ckI hi (show 8 ≤ 100000 by omega), clI (show i < 2 ^ 31 by omega), m3, let_]
          by_cases g12 : g = 12
          · subst g12
            rw [if_neg (by decide +kernel), if_pos (by rfl)]
            exact ref6 h
          · rw [if_pos (show nI g < 12 from nI_lt (b := 12) (by omega) (by decide)), if_neg (show ¬ nI g = 12 from fun q => g12 ((nI_eq (b := 12) (by omega) (by decide)).mp q))]
            unfold f_X0_addGuess
            try unfold mI
            rw [kid_y C hi, bi_, if_neg n10, ckI hi (by omega), clI (by omega), kc, m3, if_pos (show nI g < 12 from nI_lt (b := 12) (by omega) (by decide)), let_, ckI hi (by omega), let_, i12m, show nI i * 12 = nI (12 * i) by rw [show (12 : Int32) = nI 12 from rfl, pk_mul, Nat.mul_comm]]
            obtain ⟨p, f, p1, p2, p3, p4⟩ := guess_l hi b hb f_X0_addGuess_91 f_X12_guess_121 g mm_fu mm_fu 0 C R (fuGt (by omega)) (fuGt (by omega)) (by omega) kd (by
              intro j hj
              obtain ⟨n1, n2, n3, n4, n5⟩ := jK (j / 12) (by omega)
              have := n4 (j % 12) (by omega)
              rwa [show 12 * (j / 12) + j % 12 = j from by omega] at this)
            rw [show (0 : Int32) = nI 0 from rfl, p3, p4]
            unfold f_X0_addGuess_91 f_X12_guess_121
            try unfold mI
            simp only [i12n, ckI (show 12 * i + p < 96 by omega) (show 96 ≤ 100000 by omega), clI (show 12 * i + p < 2 ^ 31 by omega), ckI hi (show 8 ≤ 100000 by omega), clI (show i < 2 ^ 31 by omega), let_, s1, sA1, upd_at, Nat.reduceEqDiff, reduceIte, kc, m3, add1]
            refine ends_of ?_
            unfold Rel rBase Inv iScal
            simp only [s1, s2, l1, l2, sA1, sA2, upd_at, Nat.reduceEqDiff, reduceIte]
            refine ⟨⟨⟨bd, bn, bt, bu, bv, bw, bl⟩, ⟨sa, sb, sc, sd, se, sf, sg, sh⟩, ⟨ka, kb, by rw [kc], trivial, ke⟩, ⟨ta, tb, tc, td, te, tf, tg⟩, ⟨ra, rb, rc, rd, re_, rf⟩, ⟨qa, qb, qc, qd, qe⟩⟩, hr, hl, hw, d, n, t, u, v, w, ⟨⟨⟨id1, id2⟩, ⟨in1, in2⟩, ⟨it1, it2⟩, ⟨iu1, iu2⟩, ⟨iv1, iv2⟩, ⟨iw1, iw2⟩, ilv⟩, jS, fun c hc => ?_, jT, jR, jC, jB, jM, jD, jL⟩, hrule, hhome⟩
            obtain ⟨n1, n2, n3, n4, n5⟩ := jK c hc
            refine ⟨n1, n2, ?_, fun k hk => ?_, n5⟩
            · rw [upd_at]
              split
              · exact ⟨g + 1, rfl, by omega, by omega⟩
              · exact n3
            · rw [upd_at]
              split
              · exact hb
              · exact p2 _ (by omega)
      · rw [if_neg b8, if_neg b8]
        exact ref4 h
  · rw [kid_n C ha, lacks_n ha, bi_, bi_, if_pos rfl, if_neg y1]
    exact ref1 h

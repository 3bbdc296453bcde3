def owS (R : mm_M) (s : Nat) (x : Int32) : Int32 := ownF (R.1 8) s x 0 (nN (R.1 7 s)) (-1)
theorem owS_k {R R' : mm_M} (h : kR R R') (s : Nat) (x : Int32) : owS R' s x = owS R s x := by
  unfold owS
  rw [h.1 8 rfl, h.1 7 rfl]
theorem owner_s {C R : mm_M} (h : Rel C R) {n s : Nat} (hn : R.1 0 2 = nI n) (hn4 : n ≤ 40) (hs : s < n) (x : Int32) : f_X6_ownerOn (nI s) x C = some (owS R s x, C) ∧ f_X12_ownerOn (nI s) x R = some (owS R s x, R) ∧ ((owS R s x = -1 ∧ x < R.1 8 (6 * s)) ∨ ∃ o, owS R s x = nI o ∧ 6 * s ≤ o ∧ o < 6 * s + 6) := by
  obtain ⟨⟨⟨bd, bn, bt, bu, bv, bw, bl⟩, ⟨sa, sb, sc, sd, se, sf, sg, sh⟩, _⟩, _, _, _, d', n', t', u', v', w', ⟨⟨_, ⟨in1, in2⟩, _⟩, jS, _⟩, _⟩ := h
  obtain rfl : n = n' := (nI_eq (by omega) (by omega)).mp (hn.symm.trans in1)
  obtain ⟨_, _, _, _, _, _, o, o1, o2, o3, y1, o4, o5⟩ := jS.1 s hs
  have e : owS R s x = ownF (R.1 8) s x 0 o (-1) := by
    unfold owS
    rw [o1, nN_nI (by omega)]
  rw [e]
  refine ⟨?_, own_r x (by omega) o3 o1 o 0 mm_fu (-1) (by omega) (fuGt (by omega)), ?_⟩
  · unfold f_X6_ownerOn
    rw [has_y (bn.trans in1) in2 hs, bi_, if_neg n10, ← sh]
    exact own_c x (by omega) o3 (by rw [sg]; exact o1) o 0 mm_fu (-1) (by omega) (fuGt (by omega))
  · rcases own_ok (R.1 8) s x o o 0 (-1) (by omega) (Or.inl ⟨rfl, fun k hk => absurd hk (by omega)⟩) with ⟨z, y⟩ | ⟨k, k1, k2, k3⟩
    · exact Or.inl ⟨z, y 0 (by omega)⟩
    · exact Or.inr ⟨6 * s + k, k2, by omega, by omega⟩
theorem until_l {C : mm_M} {t : Nat} (x : Int32) (h : C.1 4 7 = nI t) (ht : t ≤ 100) : ∀ (m i n : Nat), i + m = t → m < n → (∀ j, j < i → ¬ x < C.1 41 j) → ∃ u, u ≤ t ∧ f_X9_until_4 n x (nI i) (nI i) C = some (nI u, C) ∧ (∀ j, j < u → ¬ x < C.1 41 j) ∧ (u < t → x < C.1 41 u) := by
  intro m
  induction m with
  | zero =>
    intro i n hi hn hj
    obtain ⟨n, rfl⟩ : ∃ q, n = q + 1 := ⟨n - 1, by omega⟩
    obtain rfl : i = t := by omega
    refine ⟨i, Nat.le_refl _, ?_, hj, fun q => absurd q (by omega)⟩
    unfold f_X9_until_4 mI
    rw [h, if_pos (nI_le (by omega) (by omega))]
  | succ m ih =>
    intro i n hi hn hj
    obtain ⟨n, rfl⟩ : ∃ q, n = q + 1 := ⟨n - 1, by omega⟩
    conv => enter [1, u, 2, 1, 1]; unfold f_X9_until_4
    unfold mI
    rw [h, if_neg (nI_ge (by omega) (by omega)), ckI (by omega) (by omega), clI (by omega)]
    by_cases e : x < C.1 41 i
    · rw [if_pos e]
      exact ⟨i, by omega, rfl, hj, fun _ => e⟩
    · rw [if_neg e, add1]
      exact ih (i + 1) n (by omega) (by omega) (fun j hj' => by
        by_cases ej : j = i
        · rw [ej]
          exact e
        · exact hj j (by omega))
theorem stepOn_ok {C R : mm_M} (h : Rel C R) {n t s o u : Nat} {x : Int32} (hn : R.1 0 2 = nI n) (hn4 : n ≤ 40) (ht : R.1 0 43 = nI t) (ht1 : t ≤ 100) (hs : s < n) (ho : owS R s x = nI o) (ho1 : 6 * s ≤ o) (ho2 : o < 6 * s + 6) (hu : u ≤ t) (h1 : ∀ j, j < u → ¬ x < R.1 30 j) (h2 : ∀ j, u ≤ j → j < t → x < R.1 30 j) : f_X12_stepOn (nI s) x R = some (lsF (R.1 37) (owT R) (nI o) u, R) := by
  unfold f_X12_stepOn
  rw [(owner_s h hn hn4 hs x).2.1, bi_, ho]
  have key := lpf (fun m i => f_X12_stepOn_13 m (nI s) x (nI o) (lsF (R.1 37) (owT R) (nI o) (min i u)) (nI i) R) (c := t) (out := some (lsF (R.1 37) (owT R) (nI o) u, R)) (by omega) ?_ ?_
  · exact key
  · intro i m hi
    show f_X12_stepOn_13 (m + 1) _ _ _ _ _ _ = f_X12_stepOn_13 m _ _ _ _ _ _
    obtain ⟨s', c', e', q', b', hr, _, o2', _⟩ := tRow_of h hn hn4 ht ht1 hi
    obtain ⟨t1, t2, t3, t4, t5, t6, t7, t8, t9, t10, t11⟩ := hr
    conv => lhs; unfold f_X12_stepOn_13 f_X12_stepOn_64 f_X12_stepOn_65 f_X12_stepOn_92 f_X12_stepOn_94
    rw [show mI R 0 43 = nI t from ht, if_neg (nI_ge hi (by omega))]
    simp (disch := omega) only [mI, let_, bi_, bv_, ckI, clI, s1, s2, l1, l2, upd_at, Nat.reduceEqDiff, reduceIte, add1, ax13, ax_2, ax_3, ax_4, ax_5, ax_6, ax_7, ax_8, ax_9, ax_10, ax_11, ax_12]
    simp only [n10, reduceIte]
    by_cases hiu : i < u
    · have e1' : min i u = i := by omega
      have e2' : min (i + 1) u = i + 1 := by omega
      rw [e1', e2', if_neg (h1 i hiu)]
      have hl : lsF (R.1 37) (owT R) (nI o) (i + 1) = if owT R i = nI o ∧ 0 < R.1 37 i then R.1 37 i else lsF (R.1 37) (owT R) (nI o) i := rfl
      rw [t1] at o2' ⊢
      by_cases es : s' = s
      · rw [es] at o2' ⊢
        rw [if_pos rfl, o2', bi_, ← t7]
        by_cases eo : owT R i = nI o
        · rw [if_pos eo]
          by_cases e0' : R.1 37 i ≤ 0
          · rw [if_pos e0', hl, if_neg (fun z => absurd z.2 (nlt_of.mpr e0'))]
          · rw [if_neg e0', hl, if_pos ⟨eo, nle_of.mp e0'⟩]
        · rw [if_neg eo, hl, if_neg (fun z => eo z.1)]
      · rw [if_neg (fun z => es ((nI_eq (by omega) (by omega)).mp z)), hl, if_neg (fun z => by
          rw [t7] at z
          have := (nI_eq (by omega) (by omega)).mp z.1
          omega)]
    · have e1' : min i u = u := by omega
      have e2' : min (i + 1) u = u := by omega
      rw [e1', e2', if_pos (h2 i (by omega) hi)]
      split <;> rfl
  · intro m
    show f_X12_stepOn_13 (m + 1) _ _ _ _ (nI t) _ = _
    unfold f_X12_stepOn_13 mI
    rw [ht, if_pos (nI_le (by omega) (by omega)), show min t u = u by omega]
theorem ok_step (a b c : Int32) : op_i Rel (f_X11_step a b c) (f_X12_step a b c) := by
  intro C R h
  unfold f_X12_step
  rw [let_]
  have h := rel_t h 0
  generalize sI R 0 0 0 = R at h ⊢
  show ends _ _
  unfold f_X11_step
  try unfold mI
  have h' := h
  obtain ⟨⟨⟨bd, bn, bt, bu, bv, bw, bl⟩, ⟨sa, sb, sc, sd, se, sf, sg, sh⟩, ⟨ka, kb, kc, kd, ke⟩, ⟨ta, tb, tc, td, te, tf, tg⟩, ⟨ra, rb, rc, rd, re_, rf⟩, ⟨qa, qb, qc, qd, qe⟩⟩, hr, hl, hw, d, n, t, u, v, w, ⟨⟨⟨id1, id2⟩, ⟨in1, in2⟩, ⟨it1, it2⟩, ⟨iu1, iu2⟩, ⟨iv1, iv2⟩, ⟨iw1, iw2⟩, ilv⟩, jS, jK, jT, jR, jC, jB, jM, jD, jL⟩, hrule, hhome⟩ := h'
  unfold f_X11_step_46 f_X11_step_25 f_X12_step_48 f_X12_step_27
  simp only [bi_id]
  have hn := bn.trans in1
  have ht := bt.trans it1
  rcases ix_of a (n := n) (by omega) with ⟨s, hs, rfl⟩ | ha
  · rw [has_y hn in2 hs, isShop_y in1 in2 hs, bi_, bi_, if_neg n10, if_neg n10]
    by_cases b0 : b < 0
    · rw [if_pos b0, if_pos b0]
      exact ref4 h
    · rw [if_neg b0, if_neg b0]
      by_cases c0 : 0 ≤ c
      · rw [if_pos c0, if_pos c0]
        by_cases b2 : 2000 < b
        · rw [if_pos b2, if_pos b2]
          exact ref6 h
        · rw [if_neg b2, if_neg b2]
          by_cases c2 : c ≤ 2000
          · rw [if_pos c2, if_pos c2]
            obtain ⟨w1, w2, w3⟩ := owner_s h in1 in2 hs b
            rw [w1, w2, bi_, bi_]
            rcases w3 with ⟨w3, _⟩ | ⟨o, o1, o2, o3⟩
            · rw [w3, if_neg (by decide +kernel), if_neg (by decide +kernel)]
              exact ref3 h
            · rw [o1, if_pos (nI_pos' (by omega)), if_pos (nI_pos' (by omega))]
              obtain ⟨u', u1, u2, u3, u4⟩ := until_l b ht it2 t 0 mm_fu (by omega) (fuGt (by omega)) (fun j hj => absurd hj (by omega))
              unfold f_X9_until
              rw [show f_X9_until_4 mm_fu b 0 0 C = _ from u2, bi_]
              obtain ⟨C', R', g1, g2, g3, g4, g5, g6, g7, g8⟩ := weigh_two h c in1 in2 it1 it2 u1
              rw [g1, g2, bv_, bv_]
              have hrel := rel_k h g3 g4
              have hn' : R'.1 0 2 = nI n := by rw [g4.2 2 rfl]; exact in1
              have ht' : R'.1 0 43 = nI t := by rw [g4.2 43 rfl]; exact it1
              have ho' : owS R' s b = nI o := by rw [owS_k g4]; exact o1
              have hso := stepOn_ok hrel hn' in2 ht' it2 hs ho' o2 o3 u1 (fun j hj => by rw [g4.1 30 rfl, ← tc]; exact u3 j hj) (fun j hj hjt => by
                rw [g4.1 30 rfl]
                have hu' := u4 (by omega)
                rw [tc] at hu'
                by_cases ej : j = u'
                · rw [ej]
                  exact hu'
                · obtain ⟨_, _, e1', _, _, _, _, _, d1', d2', _⟩ := jT.1 u' (by omega)
                  obtain ⟨_, _, e2', _, _, _, _, _, d3', d4', _⟩ := jT.1 j hjt
                  have := jT.2 u' j e1' e2' (by omega) hjt (by omega) (by omega) d1' d3'
                  rw [d1'] at hu'
                  rw [d3']
                  rw [Int32.lt_iff_toInt_lt, nI_toInt (by omega)] at hu' ⊢
                  omega)
              rw [hso]
              unfold f_X10_stepOf
              rw [(owner_s hrel hn' in2 hs b).1, bi_, ho', if_pos (nI_pos' (by omega)), ckI (by omega) (by omega), clI (by omega)]
              unfold mI
              rw [g7 o (by omega), show lsF (R'.1 37) (owT R') (nI o) u' = lsF (R'.1 37) (owT R) (nI o) u' from lsF_eq (fun j _ => ⟨rfl, owT_k g4 j⟩)]
              exact ends_k h g3 g4
          · rw [if_neg c2, if_neg c2]
            exact ref6 h
      · rw [if_neg c0, if_neg c0]
        exact ref4 h
  · rw [has_n hn ha, isShop_n in1 in2 ha, bi_, bi_, if_pos rfl, if_pos rfl]
    exact ref1 h
theorem ok_lost : op_i Rel f_X11_lost f_X12_lost := by
  intro C R h
  unfold f_X12_lost
  rw [let_]
  have h := rel_t h 0
  generalize sI R 0 0 0 = R at h ⊢
  show ends _ _
  unfold f_X11_lost
  try unfold mI
  have h' := h
  obtain ⟨⟨⟨bd, bn, bt, bu, bv, bw, bl⟩, ⟨sa, sb, sc, sd, se, sf, sg, sh⟩, ⟨ka, kb, kc, kd, ke⟩, ⟨ta, tb, tc, td, te, tf, tg⟩, ⟨ra, rb, rc, rd, re_, rf⟩, ⟨qa, qb, qc, qd, qe⟩⟩, hr, hl, hw, d, n, t, u, v, w, ⟨⟨⟨id1, id2⟩, ⟨in1, in2⟩, ⟨it1, it2⟩, ⟨iu1, iu2⟩, ⟨iv1, iv2⟩, ⟨iw1, iw2⟩, ilv⟩, jS, jK, jT, jR, jC, jB, jM, jD, jL⟩, hrule, hhome⟩ := h'
  have hn := bn.trans in1
  have ht := bt.trans it1
  obtain ⟨C', R', g1, g2, g3, g4, g5, g6, g7, g8⟩ := weigh_two h (R.1 0 1) in1 in2 it1 it2 (Nat.le_refl t)
  rw [bd, ht, g1, g2, bv_, bv_]
  have hrel := rel_k h g3 g4
  have hn' : R'.1 0 2 = nI n := by rw [g4.2 2 rfl]; exact in1
  have ht' : R'.1 0 43 = nI t := by rw [g4.2 43 rfl]; exact it1
  -- each shop's step
  have hstep : ∀ s, s < n → ∃ x, f_X10_stepOf (nI s) (R.1 0 1) C' = some (x, C') ∧ f_X12_stepOn (nI s) (R.1 0 1) R' = some (x, R') := by
    intro s hs
    obtain ⟨w1, w2, w3⟩ := owner_s hrel hn' in2 hs (R.1 0 1)
    rcases w3 with ⟨_, w4⟩ | ⟨o, o1, o2, o3⟩
    · exfalso
      obtain ⟨_, _, _, _, _, _, o, o1, o2, o3, y1, o4, o5⟩ := jS.1 s hs
      obtain ⟨z, z1, z2, z3⟩ := o5 0 (by omega)
      rw [g4.1 8 rfl, id1] at w4
      rw [Nat.add_zero] at z1
      rw [z1] at w4
      exact absurd w4 (nI_nlt z3 (by omega))
    · refine ⟨lsF (R'.1 37) (owT R') (nI o) t, ?_, stepOn_ok hrel hn' in2 ht' it2 hs o1 o2 o3 (Nat.le_refl t) (fun j hj => ?_) (fun j h1 h2 => absurd h2 (by omega))⟩
      · unfold f_X10_stepOf
        rw [w1, bi_, o1, if_pos (nI_pos' (by omega)), ckI (by omega) (by omega), clI (by omega)]
        unfold mI
        rw [g7 o (by omega), show lsF (R'.1 37) (owT R') (nI o) t = lsF (R'.1 37) (owT R) (nI o) t from lsF_eq (fun j _ => ⟨rfl, owT_k g4 j⟩)]
      · rw [g4.1 30 rfl, id1]
        obtain ⟨_, _, e1', _, _, _, _, _, d1', d2', _⟩ := jT.1 j hj
        rw [d1']
        exact nI_nlt d2' (by omega)
  have hC28 : C'.1 2 8 = nI n := by rw [g3 2 rfl]; exact hn
  have hC31 : C'.1 31 = R'.1 6 := by rw [g3 31 rfl, g4.1 6 rfl]; exact sf
  have hC16 : C'.1 0 16 = R.1 0 1 := by rw [g3 0 rfl]; exact bd
  have hR1 : R'.1 0 1 = R.1 0 1 := g4.2 1 rfl
  have main : ∀ (m s x nC nR : Nat), s + m = n → m < nC → m < nR → ∃ r, f_X11_lost_22 nC (nI x) (nI s) C' = some (r, C') ∧ f_X12_lost_17 nR (nI x) (nI s) R' = some (r, R') := by
    intro m
    induction m with
    | zero =>
      intro s x nC nR hs h1 h2
      obtain ⟨nC, rfl⟩ : ∃ q, nC = q + 1 := ⟨nC - 1, by omega⟩
      obtain ⟨nR, rfl⟩ : ∃ q, nR = q + 1 := ⟨nR - 1, by omega⟩
      obtain rfl : s = n := by omega
      refine ⟨nI x, ?_, ?_⟩
      · unfold f_X11_lost_22 mI
        rw [hC28, if_pos (nI_le (by omega) (by omega))]
      · unfold f_X12_lost_17 mI
        rw [hn', if_pos (nI_le (by omega) (by omega))]
    | succ m ih =>
      intro s x nC nR hs h1 h2
      obtain ⟨nC, rfl⟩ : ∃ q, nC = q + 1 := ⟨nC - 1, by omega⟩
      obtain ⟨nR, rfl⟩ : ∃ q, nR = q + 1 := ⟨nR - 1, by omega⟩
      obtain ⟨y, y1, y2⟩ := hstep s (by omega)
      unfold f_X11_lost_22 f_X11_lost_64 f_X12_lost_17 f_X12_lost_52 f_X12_lost_53
      unfold mI
      rw [hC28, hn', if_neg (nI_ge (by omega) (by omega)), if_neg (nI_ge (by omega) (by omega)), ckI (by omega) (by omega), ckI (by omega) (by omega), clI (by omega), hC31, hC16, hR1]
      by_cases e : R'.1 6 s = 0
      · rw [if_pos e, if_pos e, let_, ad0, add1]
        exact ih (s + 1) x nC nR (by omega) (by omega) (by omega)
      · rw [if_neg e, if_neg e, y1, y2, bi_, bi_]
        by_cases e4 : y = 4
        · rw [if_pos e4, if_pos e4, let_, add1, add1]
          exact ih (s + 1) (x + 1) nC nR (by omega) (by omega) (by omega)
        · rw [if_neg e4, if_neg e4, let_, ad0, add1]
          exact ih (s + 1) x nC nR (by omega) (by omega) (by omega)
  obtain ⟨r, r1, r2⟩ := main n 0 0 mm_fu mm_fu (by omega) (fuGt (by omega)) (fuGt (by omega))
  rw [show f_X11_lost_22 mm_fu 0 0 C' = _ from r1, show f_X12_lost_17 mm_fu 0 0 R' = _ from r2]
  exact ends_k h g3 g4

theorem lt_of_nle {a b : Int32} (h : ¬ a ≤ b) : b < a := nle_lt.mp h
theorem ok_clerk (a b x y z : Int32) : op_i Rel (f_X11_clerk a b x y z) (f_X12_clerk a b x y z) := by
  intro C R h
  unfold f_X12_clerk
  rw [let_]
  have h := rel_t h 0
  generalize sI R 0 0 0 = R at h ⊢
  show ends _ _
  unfold f_X11_clerk
  try unfold mI
  have h' := h
  obtain ⟨⟨⟨bd, bn, bt, bu, bv, bw, bl⟩, ⟨sa, sb, sc, sd, se, sf, sg, sh⟩, ⟨ka, kb, kc, kd, ke⟩, ⟨ta, tb, tc, td, te, tf, tg⟩, ⟨ra, rb, rc, rd, re_, rf⟩, ⟨qa, qb, qc, qd, qe⟩⟩, hr, hl, hw, d, n, t, u, v, w, ⟨⟨⟨id1, id2⟩, ⟨in1, in2⟩, ⟨it1, it2⟩, ⟨iu1, iu2⟩, ⟨iv1, iv2⟩, ⟨iw1, iw2⟩, ilv⟩, jS, jK, jT, jR, jC, jB, jM, jD, jL⟩, hrule, hhome⟩ := h'
  have hn := bn.trans in1
  have hw' := bw.trans iw1
  unfold f_X11_clerk_92 f_X11_clerk_52 f_X11_clerk_21 f_X12_clerk_85 f_X12_clerk_48 f_X12_clerk_23
  simp only [bi_id]
  rcases ix_of a (n := 10) (by omega) with ⟨i, hi, rfl⟩ | ha
  · rw [if_neg (nI_pos (by omega)), if_neg (show ¬ (10 : Int32) ≤ nI i from nI_ge (b := 10) hi (by decide)), in_jx (n := 9) R (by omega) rfl hi, bi_, if_neg (by rw [z01]; exact id)]
    rcases ix_of b (n := n) (by omega) with ⟨j, hj, rfl⟩ | hb
    · rw [has_y hn in2 hj, isShop_y in1 in2 hj, bi_, bi_]
      simp only [z01, reduceIte]
      by_cases x0 : x < 0
      · rw [if_pos x0, if_pos x0]
        exact ref4 h
      · rw [if_neg x0, if_neg x0]
        by_cases xy : y ≤ x
        · rw [if_pos xy, if_pos xy]
          by_cases y1 : y < 1
          · rw [if_pos y1]
            exact ref4 h
          · rw [if_neg y1]
            exact ref4 h
        · have y1 : ¬ y < 1 := by
            rw [Int32.lt_iff_toInt_lt, show (1 : Int32).toInt = 1 from rfl]
            rw [Int32.lt_iff_toInt_lt, show (0 : Int32).toInt = 0 from rfl] at x0
            rw [Int32.le_iff_toInt_le] at xy
            omega
          rw [if_neg xy, if_neg xy, if_neg y1, bd]
          by_cases zd : R.1 0 1 ≤ z
          · rw [if_pos zd, if_pos zd]
            by_cases x2 : (23 : Int32) < x
            · rw [if_pos x2, if_pos (by rw [Int32.le_iff_toInt_le]; rw [Int32.lt_iff_toInt_lt] at x2; have : (23 : Int32).toInt = 23 := rfl; have : (24 : Int32).toInt = 24 := rfl; omega)]
              exact ref6 h
            · rw [if_neg x2, if_neg (by rw [Int32.le_iff_toInt_le]; rw [Int32.lt_iff_toInt_lt] at x2; have : (23 : Int32).toInt = 23 := rfl; have : (24 : Int32).toInt = 24 := rfl; omega)]
              by_cases y2 : (24 : Int32) < y
              · rw [if_pos y2, if_pos y2]
                exact ref6 h
              · rw [if_neg y2, if_neg y2]
                by_cases z2 : (2000 : Int32) < z
                · rw [if_pos z2, if_pos z2]
                  exact ref6 h
                · rw [if_neg z2, if_neg z2, hw', iw1]
                  by_cases w4 : w = 40
                  · subst w4
                    rw [if_neg (by decide +kernel), if_pos (by rfl)]
                    exact ref6 h
                  · have e1 : nI w < 40 := nI_lt (b := 40) (by omega) (by decide)
                    have e2 : ¬ nI w = 40 := fun q => w4 ((nI_eq (b := 40) (by omega) (by decide)).mp q)
                    unfold f_X1_add mI
                    simp only [hw', iw1, e1, e2, reduceIte, let_, ckI (show w < 40 by omega) (show 40 ≤ 100000 by omega), clI (show w < 2 ^ 31 by omega), s1, upd_at, Nat.reduceEqDiff, add1, eq_self]
                    refine ends_of ?_
                    have hx : rng x 0 23 := num_of (lo := 0) (hi := 23) 0 23 rfl rfl (by omega) (by omega) (nlt_le.mp x0) (nlt_le.mp x2)
                    have hy : rng y 1 24 := num_of (lo := 1) (hi := 24) 1 24 rfl rfl (by omega) (by omega) (nlt_le.mp y1) (nlt_le.mp y2)
                    have hz : rng z d 2000 := num_of (lo := nI d) (hi := 2000) d 2000 rfl rfl (by omega) (by omega) (by rw [← id1]; exact zd) (nlt_le.mp z2)
                    unfold Rel rBase Inv iScal
                    simp only [s1, s2, l1, l2, upd_at, Nat.reduceEqDiff, reduceIte]
                    refine ⟨⟨⟨bd, bn, bt, bu, bv, trivial, bl⟩, ⟨sa, sb, sc, sd, se, sf, sg, sh⟩, ⟨ka, kb, kc, kd, ke⟩, ⟨ta, tb, tc, td, te, tf, tg⟩, ⟨ra, rb, rc, rd, re_, rf⟩, ⟨by rw [qa], by rw [qb], by rw [qc], by rw [qd], by rw [qe]⟩⟩, hr, hl, hw, d, n, t, u, v, w + 1, ⟨⟨⟨id1, id2⟩, ⟨in1, in2⟩, ⟨it1, it2⟩, ⟨iu1, iu2⟩, ⟨iv1, iv2⟩, ⟨rfl, by omega⟩, ilv⟩, jS, jK, jT, jR, fun k hk => ?_, jB, jM, jD, jL⟩, hrule, hhome⟩
                    by_cases ek : k = w
                    · subst ek
                      simp only [upd_at, reduceIte]
                      obtain ⟨zz, z3, z4, z5⟩ := hz
                      exact ⟨⟨i, rfl, by omega, by omega⟩, ⟨j, rfl, hj⟩, hx, hy, zz, z3, by omega, z5⟩
                    · simp only [upd_at, if_neg ek]
                      exact jC k (by omega)
          · rw [if_neg zd, if_neg zd]
            exact ref4 h
    · rw [has_n hn hb, isShop_n in1 in2 hb, bi_, bi_, if_pos rfl, if_pos rfl]
      exact ref1 h
  · rw [in_ix (n := 9) R (by omega) rfl ha, bi_, if_pos rfl]
    by_cases a0 : a < 0
    · rw [if_pos a0]
      exact ref1 h
    · rw [if_neg a0, if_pos (by rcases ha with q | q; exact absurd q a0; exact q)]
      exact ref1 h
/-- which rule is in force: both loops agree -/
theorem force_l {C R : mm_M} {u : Nat} (hu : u ≤ 20) (c1 : C.1 5 5 = nI u) (r1 : R.1 0 28 = nI u) (c2 : C.1 46 = R.1 20) (c3 : C.1 47 = R.1 21) (hR : iRule u (R.1 20) (R.1 21)) (x y : Int32) : ∀ (m s nC nR : Nat) (xc dc xr : Int32), s + m = u → m < nC → m < nR → ((xc = -9 ∧ dc = -1 ∧ xr = -1) ∨ ∃ p, p < u ∧ xc = nI p ∧ dc = R.1 21 p ∧ xr = nI p) → (f_X5_inForce_9 nC x y xc dc (nI s) C = some (-9, C) ∧ f_X12_ruleOn_5 nR x y xr (nI s) R = some (-1, R)) ∨ ∃ p, p < u ∧ f_X5_inForce_9 nC x y xc dc (nI s) C = some (nI p, C) ∧ f_X12_ruleOn_5 nR x y xr (nI s) R = some (nI p, R) := by
  intro m
  induction m with
  | zero =>
    intro s nC nR xc dc xr hs h1 h2 hx
    obtain ⟨nC, rfl⟩ : ∃ q, nC = q + 1 := ⟨nC - 1, by omega⟩
    obtain ⟨nR, rfl⟩ : ∃ q, nR = q + 1 := ⟨nR - 1, by omega⟩
    obtain rfl : s = u := by omega
    unfold f_X5_inForce_9 f_X12_ruleOn_5 mI
    rw [c1, r1, if_pos (nI_le (by omega) (by omega)), if_pos (nI_le (by omega) (by omega))]
    rcases hx with ⟨rfl, rfl, rfl⟩ | ⟨p, hp, rfl, rfl, rfl⟩
    · exact Or.inl ⟨rfl, rfl⟩
    · exact Or.inr ⟨p, hp, rfl, rfl⟩
  | succ m ih =>
    intro s nC nR xc dc xr hs h1 h2 hx
    obtain ⟨nC, rfl⟩ : ∃ q, nC = q + 1 := ⟨nC - 1, by omega⟩
    obtain ⟨nR, rfl⟩ : ∃ q, nR = q + 1 := ⟨nR - 1, by omega⟩
    have e0 : ¬ nI u ≤ nI s := nI_ge (by omega) (by omega)
    unfold f_X5_inForce_9 f_X12_ruleOn_5 mI
    unfold f_X5_inForce_64 f_X12_ruleOn_61 f_X12_ruleOn_56 f_X12_ruleOn_62
    simp only [c1, r1, e0, reduceIte, ckI (show s < 20 by omega) (show 20 ≤ 100000 by omega), clI (show s < 2 ^ 31 by omega), c2, c3, add1, let_]
    obtain ⟨g1, dd, g2, g3, g4⟩ := hR s (by omega)
    by_cases e1 : R.1 20 s = x
    · rw [if_pos e1, if_pos e1]
      by_cases e2 : y < R.1 21 s
      · rw [if_pos e2, if_pos e2]
        exact ih (s + 1) nC nR xc dc xr (by omega) (by omega) (by omega) hx
      · rw [if_neg e2, if_neg e2]
        rcases hx with ⟨rfl, rfl, rfl⟩ | ⟨p, hp, rfl, rfl, rfl⟩
        · rw [if_pos (show (-1 : Int32) < 0 by decide +kernel), if_neg (by rw [g2, Int32.lt_iff_toInt_lt, nI_toInt (by omega), show (-1 : Int32).toInt = -1 by decide +kernel]; omega)]
          exact ih (s + 1) nC nR _ _ _ (by omega) (by omega) (by omega) (Or.inr ⟨s, by omega, rfl, rfl, rfl⟩)
        · rw [if_neg (nI_pos (by omega))]
          simp only [ckI (show p < 20 by omega) (show 20 ≤ 100000 by omega), clI (show p < 2 ^ 31 by omega)]
          by_cases e3 : R.1 21 s < R.1 21 p
          · rw [if_pos e3, if_pos e3]
            exact ih (s + 1) nC nR _ _ _ (by omega) (by omega) (by omega) (Or.inr ⟨p, hp, rfl, rfl, rfl⟩)
          · rw [if_neg e3, if_neg e3]
            exact ih (s + 1) nC nR _ _ _ (by omega) (by omega) (by omega) (Or.inr ⟨s, by omega, rfl, rfl, rfl⟩)
    · rw [if_neg e1, if_neg e1]
      exact ih (s + 1) nC nR xc dc xr (by omega) (by omega) (by omega) hx
theorem force_ok {C R : mm_M} {u : Nat} (hu : u ≤ 20) (c1 : C.1 5 5 = nI u) (r1 : R.1 0 28 = nI u) (c2 : C.1 46 = R.1 20) (c3 : C.1 47 = R.1 21) (hR : iRule u (R.1 20) (R.1 21)) (x y : Int32) : (f_X5_inForce x y C = some (-9, C) ∧ f_X12_ruleOn x y R = some (-1, R)) ∨ ∃ p, p < u ∧ f_X5_inForce x y C = some (nI p, C) ∧ f_X12_ruleOn x y R = some (nI p, R) :=
  force_l hu c1 r1 c2 c3 hR x y u 0 mm_fu mm_fu (-9) (-1) (-1) (by omega) (fuGt (by omega)) (fuGt (by omega)) (Or.inl ⟨rfl, rfl, rfl⟩)
theorem use_y {j : Nat} (M : mm_M) (hj : j < 5) : f_X11_isUse (nI j) M = some (1, M) := kind_y M hj
theorem use_n {a : Int32} (M : mm_M) (ha : a < 0 ∨ nI 5 ≤ a) : f_X11_isUse a M = some (0, M) := kind_n M ha
theorem ok_force (a b : Int32) : op_i Rel (f_X11_force a b) (f_X12_force a b) := by
  intro C R h
  unfold f_X12_force
  rw [let_]
  have h := rel_t h 0
  generalize sI R 0 0 0 = R at h ⊢
  show ends _ _
  unfold f_X11_force
  try unfold mI
  have h' := h
  obtain ⟨⟨⟨bd, bn, bt, bu, bv, bw, bl⟩, ⟨sa, sb, sc, sd, se, sf, sg, sh⟩, ⟨ka, kb, kc, kd, ke⟩, ⟨ta, tb, tc, td, te, tf, tg⟩, ⟨ra, rb, rc, rd, re_, rf⟩, ⟨qa, qb, qc, qd, qe⟩⟩, hr, hl, hw, d, n, t, u, v, w, ⟨⟨⟨id1, id2⟩, ⟨in1, in2⟩, ⟨it1, it2⟩, ⟨iu1, iu2⟩, ⟨iv1, iv2⟩, ⟨iw1, iw2⟩, ilv⟩, jS, jK, jT, jR, jC, jB, jM, jD, jL⟩, hrule, hhome⟩ := h'
  simp only [bi_id]
  rcases ix_of a (n := 5) (by omega) with ⟨j, hj, rfl⟩ | ha
  · rw [use_y C hj, in_jx (n := 4) R (by omega) rfl hj, bi_, bi_]
    simp only [z01, reduceIte]
    rcases out_of (a := b) (lo := 0) (hi := 2000) C with ⟨q1, q2, q3⟩ | ⟨q1, q2, q3⟩ | ⟨q1, q3⟩
    · rw [q3, bi_, if_pos rfl, if_pos q1, if_pos q2]
      rcases force_ok iu2 (bu.trans iu1) iu1 ra rb jR (nI j) b with ⟨f1, f2⟩ | ⟨p, hp, f1, f2⟩
      · rw [f1, f2, bi_, if_neg (by decide +kernel)]
        exact ends_of h
      · rw [f1, f2, bi_, if_pos (nI_pos' (by omega))]
        exact ends_of h
    · rw [q3, bi_, if_neg (by rw [z6]; exact id), if_pos q1, if_neg q2]
      exact ref6 h
    · rw [q3, bi_, if_neg (by rw [z4]; exact id), if_neg q1]
      exact ref4 h
  · rw [use_n C ha, in_ix (n := 4) R (by omega) rfl ha, bi_, bi_, if_pos rfl, if_pos rfl]
    exact ref2 h
/-- the owner of a shop on a day -/
def ownF (fr : Nat → Int32) (j : Nat) (x : Int32) : Nat → Nat → Int32 → Int32
  | _, 0, acc => acc
  | s, m + 1, acc => ownF fr j x (s + 1) m (if x < fr (6 * j + s) then acc else nI (6 * j + s))
theorem own_c {C : mm_M} {j o : Nat} (x : Int32) (hj : j < 40) (ho : o ≤ 6) (h : C.1 32 j = nI o) : ∀ (m s n : Nat) (acc : Int32), s + m = o → m < n → f_X6_ownerOn_15 n (nI j) x acc (nI s) C = some (ownF (C.1 33) j x s m acc, C) := by
  intro m
  induction m with
  | zero =>
    intro s n acc hs hn
    obtain ⟨n, rfl⟩ : ∃ q, n = q + 1 := ⟨n - 1, by omega⟩
    obtain rfl : s = o := by omega
    unfold f_X6_ownerOn_15 mI ownF
    rw [ckI hj (by omega), clI (by omega), h, if_pos (nI_le (by omega) (by omega))]
  | succ m ih =>
    intro s n acc hs hn
    obtain ⟨n, rfl⟩ : ∃ q, n = q + 1 := ⟨n - 1, by omega⟩
    unfold f_X6_ownerOn_15 mI ownF f_X6_ownerOn_57
    rw [ckI hj (by omega), clI (by omega), h, if_neg (nI_ge (by omega) (by omega)), if_neg (show ¬ (6 : Int32) ≤ nI s from nI_ge (b := 6) (by omega) (by decide)), i6m, ckI (by omega) (by omega), clI (by omega), add1, let_]
    split
    · exact ih (s + 1) n _ (by omega) (by omega)
    · exact ih (s + 1) n _ (by omega) (by omega)
theorem own_r {R : mm_M} {j o : Nat} (x : Int32) (hj : j < 40) (ho : o ≤ 6) (h : R.1 7 j = nI o) : ∀ (m s n : Nat) (acc : Int32), s + m = o → m < n → f_X12_ownerOn_5 n (nI j) x acc (nI s) R = some (ownF (R.1 8) j x s m acc, R) := by
  intro m
  induction m with
  | zero =>
    intro s n acc hs hn
    obtain ⟨n, rfl⟩ : ∃ q, n = q + 1 := ⟨n - 1, by omega⟩
    obtain rfl : s = o := by omega
    unfold f_X12_ownerOn_5 mI ownF
    rw [ckI hj (by omega), clI (by omega), h, if_pos (nI_le (by omega) (by omega))]
  | succ m ih =>
    intro s n acc hs hn
    obtain ⟨n, rfl⟩ : ∃ q, n = q + 1 := ⟨n - 1, by omega⟩
    unfold f_X12_ownerOn_5 mI ownF f_X12_ownerOn_43
    rw [ckI hj (by omega), clI (by omega), h, if_neg (nI_ge (by omega) (by omega)), i6n, ckI (by omega) (by omega), clI (by omega), add1]
    split
    · exact ih (s + 1) n _ (by omega) (by omega)
    · exact ih (s + 1) n _ (by omega) (by omega)
def owOk (fr : Nat → Int32) (j : Nat) (x : Int32) (o : Nat) (r : Int32) : Prop := ∃ k, k < o ∧ r = nI (6 * j + k) ∧ ¬ x < fr (6 * j + k)
theorem own_ok (fr : Nat → Int32) (j : Nat) (x : Int32) (o : Nat) : ∀ (m s : Nat) (acc : Int32), s + m = o → ((acc = -1 ∧ ∀ k, k < s → x < fr (6 * j + k)) ∨ owOk fr j x o acc) → ((ownF fr j x s m acc = -1 ∧ ∀ k, k < o → x < fr (6 * j + k)) ∨ owOk fr j x o (ownF fr j x s m acc)) := by
  intro m
  induction m with
  | zero =>
    intro s acc hs h
    obtain rfl : s = o := by omega
    exact h
  | succ m ih =>
    intro s acc hs h
    unfold ownF
    refine ih (s + 1) _ (by omega) ?_
    split
    · rename_i e
      rcases h with ⟨h1, h2⟩ | h
      · refine Or.inl ⟨h1, fun k hk => ?_⟩
        by_cases ek : k = s
        · subst ek
          exact e
        · exact h2 k (by omega)
      · exact Or.inr h
    · rename_i e
      exact Or.inr ⟨s, by omega, rfl, e⟩
theorem owner_ok {C R : mm_M} {n j o : Nat} (c1 : C.1 2 8 = nI n) (hn : n ≤ 40) (hj : j < n) (ho : R.1 7 j = nI o) (ho6 : o ≤ 6) (c2 : C.1 32 = R.1 7) (c3 : C.1 33 = R.1 8) (x : Int32) : ∃ r, f_X6_ownerOn (nI j) x C = some (r, C) ∧ f_X12_ownerOn (nI j) x R = some (r, R) ∧ ((r = -1 ∧ ∀ k, k < o → x < R.1 8 (6 * j + k)) ∨ owOk (R.1 8) j x o r) := by
  refine ⟨ownF (R.1 8) j x 0 o (-1), ?_, ?_, own_ok _ _ _ _ o 0 (-1) (by omega) (Or.inl ⟨rfl, fun k hk => absurd hk (by omega)⟩)⟩
  · unfold f_X6_ownerOn
    rw [has_y c1 hn hj, bi_, if_neg (by rw [z01]; exact id), ← c3]
    exact own_c x (by omega) ho6 (by rw [c2]; exact ho) o 0 mm_fu (-1) (by omega) (fuGt (by omega))
  · exact own_r x (by omega) ho6 ho o 0 mm_fu (-1) (by omega) (fuGt (by omega))

/-- a whole row put in -/
def sA (M : mm_M) (o : Nat) (f : Nat → Int32) : mm_M := (fun a => if a = o then f else M.1 a, M.2)
theorem sA1 (M : mm_M) (o : Nat) (f : Nat → Int32) (a : Nat) : (sA M o f).1 a = if a = o then f else M.1 a := rfl
theorem sA2 (M : mm_M) (o : Nat) (f : Nat → Int32) : (sA M o f).2 = M.2 := rfl
theorem sI_sA (M : mm_M) (o i : Nat) (v : Int32) : sI M o i v = sA M o (upd (M.1 o) i v) := by
  refine Prod.ext ?_ rfl
  funext a
  rw [s1, sA1]
theorem sA_sA (M : mm_M) (o : Nat) (f g : Nat → Int32) : sA (sA M o f) o g = sA M o g := by
  refine Prod.ext ?_ rfl
  funext a
  simp only [sA1]
  split <;> rfl
theorem sA_id (M : mm_M) (o : Nat) : sA M o (M.1 o) = M := by
  refine Prod.ext ?_ rfl
  funext a
  rw [sA1]
  split
  · subst_vars; rfl
  · rfl
def fill (f : Nat → Int32) (lo hi : Nat) (v : Int32) : Nat → Int32 := fun p => if lo ≤ p ∧ p < hi then v else f p
theorem fill_e (f : Nat → Int32) (lo : Nat) (v : Int32) : fill f lo lo v = f := by
  funext p
  unfold fill
  rw [if_neg (by omega)]
theorem fill_s (f : Nat → Int32) {p e : Nat} (v : Int32) (h : p < e) : fill (upd f p v) (p + 1) e v = fill f p e v := by
  funext q
  unfold fill upd
  by_cases e1 : q = p
  · subst e1
    rw [if_neg (by omega), if_pos rfl, if_pos (by omega)]
  · by_cases e2 : p + 1 ≤ q ∧ q < e
    · rw [if_pos e2, if_pos (by omega)]
    · rw [if_neg e2, if_neg e1, if_neg (by omega)]
theorem child_lr (k : Int32 → mm_M → Option (Int32 × mm_M)) (x : Int32) {i : Nat} (hi : i < 8) : ∀ (m s n : Nat) (R : mm_M), s + m = 40 → m < n → f_X12_child_80 k n (nI i) x (nI s) R = k x (sA R 13 (fill (R.1 13) (40 * i + s) (40 * i + 40) 0)) := by
  intro m
  induction m with
  | zero =>
    intro s n R hs hn
    obtain ⟨n, rfl⟩ : ∃ q, n = q + 1 := ⟨n - 1, by omega⟩
    obtain rfl : s = 40 := by omega
    unfold f_X12_child_80
    rw [if_pos (show (40 : Int32) ≤ nI 40 by decide +kernel), fill_e, sA_id]
  | succ m ih =>
    intro s n R hs hn
    obtain ⟨n, rfl⟩ : ∃ q, n = q + 1 := ⟨n - 1, by omega⟩
    unfold f_X12_child_80
    rw [if_neg (show ¬ (40 : Int32) ≤ nI s from nI_ge (b := 40) (by omega) (by decide)), i01n, ckI (by omega) (by omega), clI (by omega), let_, add1, ih (s + 1) n _ (by omega) (by omega), a01, sI_sA, sA_sA, sA1, if_pos rfl, show 40 * i + (s + 1) = 40 * i + s + 1 from by omega, fill_s _ _ (by omega)]
theorem child_lc {x : Int32} (hx : x = 0 ∨ x = 1) {i : Nat} (hi : i < 8) : ∀ (m s n : Nat) (R : mm_M), s + m = 40 → m < n → f_X0_tell_49 n (nI i) x (nI s) R = some (x, sA R 38 (fill (R.1 38) (40 * i + s) (40 * i + 40) 0)) := by
  intro m
  induction m with
  | zero =>
    intro s n R hs hn
    obtain ⟨n, rfl⟩ : ∃ q, n = q + 1 := ⟨n - 1, by omega⟩
    obtain rfl : s = 40 := by omega
    unfold f_X0_tell_49
    rw [if_pos (show (40 : Int32) ≤ nI 40 by decide +kernel), fill_e, sA_id]
    rcases hx with rfl | rfl
    · rfl
    · rfl
  | succ m ih =>
    intro s n R hs hn
    obtain ⟨n, rfl⟩ : ∃ q, n = q + 1 := ⟨n - 1, by omega⟩
    unfold f_X0_tell_49
    rw [if_neg (show ¬ (40 : Int32) ≤ nI s from nI_ge (b := 40) (by omega) (by decide)), i01m, ckI (by omega) (by omega), clI (by omega), let_, add1, ih (s + 1) n _ (by omega) (by omega), a01, sI_sA, sA_sA, sA1, if_pos rfl, show 40 * i + (s + 1) = 40 * i + s + 1 from by omega, fill_s _ _ (by omega)]
theorem neg_of {b : Int32} (q1 : (-7000 : Int32) ≤ b) (q2 : b ≤ -3000) : ∃ k, b = -nI k ∧ 3000 ≤ k ∧ k ≤ 7000 := by
  rw [Int32.le_iff_toInt_le] at q1 q2
  have e1 : (-7000 : Int32).toInt = -7000 := by decide +kernel
  have e2 : (-3000 : Int32).toInt = -3000 := by decide +kernel
  refine ⟨(-b.toInt).toNat, ?_, by omega, by omega⟩
  refine Int32.toInt_inj.mp ?_
  rw [Int32.toInt_neg, nI_toInt (by omega)]
  have e3 : ((-b.toInt).toNat : Int) = -b.toInt := by omega
  rw [e3, Int.neg_neg]
  refine (Int.bmod_eq_of_le ?_ ?_).symm
  · have := i32t b
    omega
  · have := i32t b
    omega
theorem ok_child (a b : Int32) : op_i Rel (f_X11_child a b) (f_X12_child a b) := by
  intro C R h
  unfold f_X12_child
  rw [let_]
  have h := rel_t h 0
  generalize sI R 0 0 0 = R at h ⊢
  show ends _ _
  unfold f_X11_child
  try unfold mI
  have h' := h
  obtain ⟨⟨⟨bd, bn, bt, bu, bv, bw, bl⟩, ⟨sa, sb, sc, sd, se, sf, sg, sh⟩, ⟨ka, kb, kc, kd, ke⟩, ⟨ta, tb, tc, td, te, tf, tg⟩, ⟨ra, rb, rc, rd, re_, rf⟩, ⟨qa, qb, qc, qd, qe⟩⟩, hr, hl, hw, d, n, t, u, v, w, ⟨⟨⟨id1, id2⟩, ⟨in1, in2⟩, ⟨it1, it2⟩, ⟨iu1, iu2⟩, ⟨iv1, iv2⟩, ⟨iw1, iw2⟩, ilv⟩, jS, jK, jT, jR, jC, jB, jM, jD, jL⟩, hrule, hhome⟩ := h'
  simp only [bi_id]
  rcases ix_of a (n := 8) (by omega) with ⟨i, hi, rfl⟩ | ha
  · rw [kid_y C hi, in_jx (n := 7) R (by omega) rfl hi, bi_, bi_]
    simp only [z01, reduceIte]
    rcases out_of (a := b) (lo := -7000) (hi := -3000) C with ⟨q1, q2, q3⟩ | ⟨q1, q2, q3⟩ | ⟨q1, q3⟩
    · rw [q3, bi_, if_pos rfl, if_pos q1, if_pos q2]
      unfold f_X0_tell f_X0_tell_24
      rw [kid_y C hi, bi_]
      have l0 : ∀ (M : mm_M), f_X0_tell_49 mm_fu (nI i) 0 0 M = some (0, sA M 38 (fill (M.1 38) (40 * i + 0) (40 * i + 40) 0)) := fun M => child_lc (Or.inl rfl) hi 40 0 mm_fu M (by omega) (fuGt (by omega))
      have l1' : ∀ (M : mm_M), f_X0_tell_49 mm_fu (nI i) 1 0 M = some (1, sA M 38 (fill (M.1 38) (40 * i + 0) (40 * i + 40) 0)) := fun M => child_lc (Or.inr rfl) hi 40 0 mm_fu M (by omega) (fuGt (by omega))
      have l2' : ∀ (x : Int32) (M : mm_M), f_X12_child_80 f_X12_child_106 mm_fu (nI i) x 0 M = f_X12_child_106 x (sA M 13 (fill (M.1 13) (40 * i + 0) (40 * i + 40) 0)) := fun x M => child_lr _ x hi 40 0 mm_fu M (by omega) (fuGt (by omega))
      simp only [mI, z01, reduceIte, ckI hi (show 8 ≤ 100000 by omega), clI (show i < 2 ^ 31 by omega), let_, l0, l1', l2', ka, a11]
      unfold f_X12_child_106
      have hq : ∀ {C1 R1 : mm_M}, C1 = sA (sI (sI (sI C 34 i 1) 35 i b) 36 i 0) 38 (fill ((sI (sI (sI C 34 i 1) 35 i b) 36 i 0).1 38) (40 * i + 0) (40 * i + 40) 0) → R1 = sA (sI (sI (sI R 9 i 1) 10 i b) 11 i 0) 13 (fill ((sI (sI (sI R 9 i 1) 10 i b) 11 i 0).1 13) (40 * i + 0) (40 * i + 40) 0) → Rel C1 R1 := by
        rintro C1 R1 rfl rfl
        unfold Rel rBase Inv iScal
        simp only [s1, s2, l1, l2, sA1, sA2, upd_at, Nat.reduceEqDiff, reduceIte]
        refine ⟨⟨⟨bd, bn, bt, bu, bv, bw, bl⟩, ⟨sa, sb, sc, sd, se, sf, sg, sh⟩, ⟨by rw [ka], by rw [kb], by rw [kc], kd, by rw [ke]⟩, ⟨ta, tb, tc, td, te, tf, tg⟩, ⟨ra, rb, rc, rd, re_, rf⟩, ⟨qa, qb, qc, qd, qe⟩⟩, hr, hl, hw, d, n, t, u, v, w, ⟨⟨⟨id1, id2⟩, ⟨in1, in2⟩, ⟨it1, it2⟩, ⟨iu1, iu2⟩, ⟨iv1, iv2⟩, ⟨iw1, iw2⟩, ilv⟩, jS, fun c hc => ?_, ⟨fun k hk => ?_, jT.2⟩, jR, jC, jB, jM, jD, jL⟩, hrule, hhome⟩
        · obtain ⟨m1, m2, m3, m4, m5⟩ := jK c hc
          refine ⟨?_, ?_, ?_, m4, fun s hs => ?_⟩
          · rw [upd_at]
            split
            · exact ⟨1, rfl, by omega, by omega⟩
            · exact m1
          · rw [upd_at, upd_at]
            split
            · intro _
              exact neg_of q1 q2
            · exact m2
          · rw [upd_at]
            split
            · exact ⟨0, rfl, by omega, by omega⟩
            · exact m3
          · unfold fill
            split
            · exact ⟨0, rfl, by omega, by omega⟩
            · exact m5 s hs
        · obtain ⟨s, c, f, m1, m2, m3, m4, m5, m6⟩ := jT.1 k hk
          refine ⟨s, c, f, m1, m2, m3, m4, ?_, m6⟩
          rw [upd_at]
          split
          · rfl
          · exact m5
      by_cases e0 : R.1 9 i = 0
      · rw [if_pos e0, if_pos e0, bi_, if_neg (by rw [z01]; exact id)]
        exact ends_of (hq rfl rfl)
      · rw [if_neg e0, if_neg e0, bi_, if_pos rfl]
        exact ends_of (hq rfl rfl)
    · rw [q3, bi_, if_neg (by rw [z6]; exact id), if_pos q1, if_neg q2]
      exact ref6 h
    · rw [q3, bi_, if_neg (by rw [z4]; exact id), if_neg q1]
      exact ref4 h
  · rw [kid_n C ha, in_ix (n := 7) R (by omega) rfl ha, bi_, bi_, if_pos rfl, if_pos rfl]
    exact ref1 h
theorem isTest_y {R : mm_M} {n j : Nat} (h : R.1 0 43 = nI n) (hn : n ≤ 100) (hj : j < n) : f_X12_isTest (nI j) R = some (1, R) := by
  unfold f_X12_isTest mI
  rw [h, show nI n - 1 = nI (n - 1) from pk_sub (b := 1) (by omega), in_y R (nI_pos' (by omega)) (nI_le (by omega) (by omega)), bi_, bz1]
theorem isTest_n {R : mm_M} {n : Nat} {a : Int32} (h : R.1 0 43 = nI n) (hn : n ≤ 100) (ha : a < 0 ∨ nI n ≤ a) : f_X12_isTest a R = some (0, R) := by
  unfold f_X12_isTest mI
  rw [h, in_n R, bi_, bz0]
  rcases ha with q | q
  · exact Or.inl q
  · refine Or.inr ?_
    rw [Int32.lt_iff_toInt_lt, show (nI n - 1).toInt = (n : Int) - (1 : Nat) from pk_sub_toInt (b := 1) (by omega) (by omega)]
    rw [Int32.le_iff_toInt_le, nI_toInt (by omega)] at q
    omega
theorem test_y {C : mm_M} {n j : Nat} (h : C.1 4 7 = nI n) (hn : n ≤ 100) (hj : j < n) : f_X9_has (nI j) C = some (1, C) := by
  unfold f_X9_has mI
  rw [h, if_neg (nI_pos (by omega)), if_neg (nI_ge hj (by omega))]
theorem test_n {C : mm_M} {n : Nat} {a : Int32} (h : C.1 4 7 = nI n) (ha : a < 0 ∨ nI n ≤ a) : f_X9_has a C = some (0, C) := by
  unfold f_X9_has mI
  rw [h]
  by_cases h0 : a < 0
  · rw [if_pos h0]
  · rw [if_neg h0, if_pos (by rcases ha with q | q; exact absurd q h0; exact q)]
theorem void_c {C : mm_M} {n j : Nat} (h : C.1 4 7 = nI n) (hn : n ≤ 100) (hj : j < n) : f_X9_isVoided (nI j) C = some (if C.1 45 j = -1 then 0 else 1, C) := by
  unfold f_X9_isVoided mI
  rw [test_y h hn hj, bi_]
  simp only [z01, reduceIte, ckI (show j < 100 by omega) (show 100 ≤ 100000 by omega), clI (show j < 2 ^ 31 by omega)]
  split <;> rfl
theorem void_of {x : Int32} {d : Nat} (hd : d ≤ 2000) (h : x = -1 ∨ rng x 0 d) : (x = -1) ↔ x < 0 := by
  rcases h with rfl | ⟨k, rfl, _, h2⟩
  · exact ⟨fun _ => by decide +kernel, fun _ => rfl⟩
  · refine ⟨fun q => ?_, fun q => absurd q (nI_pos (by omega))⟩
    rw [q]
    decide +kernel
theorem ok_appeal (a : Int32) : op_i Rel (f_X11_appeal a) (f_X12_appeal a) := by
  intro C R h
  unfold f_X12_appeal
  rw [let_]
  have h := rel_t h 0
  generalize sI R 0 0 0 = R at h ⊢
  show ends _ _
  unfold f_X11_appeal
  try unfold mI
  have h' := h
  obtain ⟨⟨⟨bd, bn, bt, bu, bv, bw, bl⟩, ⟨sa, sb, sc, sd, se, sf, sg, sh⟩, ⟨ka, kb, kc, kd, ke⟩, ⟨ta, tb, tc, td, te, tf, tg⟩, ⟨ra, rb, rc, rd, re_, rf⟩, ⟨qa, qb, qc, qd, qe⟩⟩, hr, hl, hw, d, n, t, u, v, w, ⟨⟨⟨id1, id2⟩, ⟨in1, in2⟩, ⟨it1, it2⟩, ⟨iu1, iu2⟩, ⟨iv1, iv2⟩, ⟨iw1, iw2⟩, ilv⟩, jS, jK, jT, jR, jC, jB, jM, jD, jL⟩, hrule, hhome⟩ := h'
  simp only [bi_id]
  have hn := bt.trans it1
  rcases ix_of a (n := t) (by omega) with ⟨j, hj, rfl⟩ | ha
  · rw [test_y hn it2 hj, isTest_y it1 it2 hj, bi_, bi_]
    simp only [z01, reduceIte, void_c hn it2 hj, bi_, ckI (show j < 100 by omega) (show 100 ≤ 100000 by omega), clI (show j < 2 ^ 31 by omega), tg, bd, let_]
    obtain ⟨s, c, f, m1, m2, m3, m4, m5, m6, m7, m8, m9, m10, m11, m12⟩ := jT.1 j hj
    by_cases e : R.1 34 j = -1
    · rw [if_pos e, if_pos rfl, if_pos ((void_of id2 m12).mp e)]
      refine ends_of ?_
      unfold Rel rBase Inv iScal
      simp only [s1, s2, l1, l2, upd_at, Nat.reduceEqDiff, reduceIte]
      refine ⟨⟨⟨bd, bn, bt, bu, bv, bw, bl⟩, ⟨sa, sb, sc, sd, se, sf, sg, sh⟩, ⟨ka, kb, kc, kd, ke⟩, ⟨ta, tb, tc, td, te, tf, by rw [tg]⟩, ⟨ra, rb, rc, rd, re_, rf⟩, ⟨qa, qb, qc, qd, qe⟩⟩, hr, hl, hw, d, n, t, u, v, w, ⟨⟨⟨id1, id2⟩, ⟨in1, in2⟩, ⟨it1, it2⟩, ⟨iu1, iu2⟩, ⟨iv1, iv2⟩, ⟨iw1, iw2⟩, ilv⟩, jS, jK, ⟨fun k hk => ?_, jT.2⟩, jR, jC, jB, jM, jD, jL⟩, hrule, hhome⟩
      obtain ⟨s, c, f, m1, m2, m3, m4, m5, m6, m7, m8, m9, m10, m11, m12⟩ := jT.1 k hk
      refine ⟨s, c, f, m1, m2, m3, m4, m5, m6, m7, m8, m9, m10, m11, ?_⟩
      rw [upd_at]
      split
      · exact Or.inr ⟨d, id1, by omega, by omega⟩
      · exact m12
    · rw [if_neg e, if_neg (by rw [z01]; exact id), if_neg (fun q => e ((void_of id2 m12).mpr q))]
      exact ref3 h
  · rw [test_n hn ha, isTest_n it1 it2 ha, bi_, bi_, if_pos rfl, if_pos rfl]
    exact ref1 h

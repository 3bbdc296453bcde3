/-! '!' and '(' -/
theorem rt_74 {by_ : Nat → Int32} {z p n : Nat} {R : mm_M} {c : Int32} (h : rAt by_ z R p) (hz : z ≤ 80) (hc : bAt by_ z p = c) (hs : c = 33 ∨ c = 40) : RT (n + 1) 1 R = f_X12_readText_74 (fun w M => RT n w M) 1 c R := by
  rw [rt_1 h.2.2.1]
  unfold f_X12_readText_49 mI
  rw [h.2.1, byte_ok h hz, bi_, if_neg n10, hc]
  rcases hs with e | e
  · rw [e, if_pos rfl]
  · rw [e, if_neg (by decide +kernel), if_pos rfl]
theorem push_ok {by_ : Nat → Int32} {z p d n : Nat} {R : mm_M} {c : Int32} {sg he : List Int32} (h : rS by_ z R p sg he d) (hz : z ≤ 80) (hp : p < z) (hd : d < 6) (hc : bAt by_ z p = c) (hs : c = 33 ∨ c = 40) : ∃ R', rS by_ z R' (p + 1) (c :: sg) he (d + 1) ∧ kpT R R' ∧ ∀ n, RT (n + 1) 1 R = RT n 1 R' := by
  have h' := h
  obtain ⟨h1, h2, h3, h4, h5, h6, h7, h8, h9, h10⟩ := h'
  have k42 : kpT R (sI R 0 42 (nI (d + 1))) := kpT_0 _ 42 _ (by omega)
  have hS : rS by_ z (sI R 0 42 (nI (d + 1))) p sg he (d + 1) := by
    refine ⟨rAt_k h1 k42 (by simp only [s1, s2, l1, l2, upd_at, Nat.reduceEqDiff, reduceIte]; exact h1.2.1) (by simp only [s1, s2, l1, l2, upd_at, Nat.reduceEqDiff, reduceIte]; exact h1.2.2.1), ?_, ?_, ?_, ?_, ?_, h7, h8, by omega, h10⟩
    · simp only [s1, s2, l1, l2, upd_at, Nat.reduceEqDiff, reduceIte]; exact h2
    · simp only [s1, s2, l1, l2, upd_at, Nat.reduceEqDiff, reduceIte]; exact h3
    · simp only [s1, s2, l1, l2, upd_at, Nat.reduceEqDiff, reduceIte]; exact h4
    · simp only [s1, s2, l1, l2, upd_at, Nat.reduceEqDiff, reduceIte]; exact h5
    · simp only [s1, s2, l1, l2, upd_at, Nat.reduceEqDiff, reduceIte]
  obtain ⟨R', g1, g2, g3⟩ := wait_ok c hS hz hp
  refine ⟨R', g2, kpT_t k42 g3, fun n => ?_⟩
  rw [rt_74 h1 hz hc hs]
  unfold f_X12_readText_74 f_X12_readText_257 mI
  rw [h6, if_neg (fun q => by have := (nI_eq (a := d) (b := 6) (by omega) (by omega)).mp q; omega), let_, add1, g1, bv_]
/-- too deep -/
theorem part_deep {by_ : Nat → Int32} {z p : Nat} (hz : z ≤ 80) (hp : p ≤ z) (hs : bAt by_ z p = 33 ∨ bAt by_ z p = 40) : PartOk by_ z 6 p := by
  refine ⟨.inl p, ⟨Nat.le_refl _, hp⟩, ?_, ?_⟩
  · intro C L h
    obtain ⟨C1, g1, g2⟩ := fail_ok h hz
    refine ⟨C1, ?_, g2⟩
    rw [t_part_s (by omega)]
    unfold f_X8_readPart f_X8_readPart_17 f_X8_readDeeper
    rw [peek_ok h hz, bi_]
    rcases hs with e | e
    · rw [e, if_pos rfl, if_neg (show ¬ nI 6 < 6 by decide +kernel), g1, bv_, bv_]
    · rw [e, if_neg (by decide +kernel), if_pos rfl, if_neg (show ¬ nI 6 < 6 by decide +kernel), g1, bv_, bv_]
  · intro F R sg he hc h
    have h' := h
    obtain ⟨h1, h2, h3, h4, h5, h6, h7, h8, h9, h10⟩ := h'
    refine ⟨2, by omega, fun n => ?_⟩
    rw [show n + 2 = (n + 1) + 1 by omega, rt_74 h1 hz rfl hs]
    unfold f_X12_readText_74 f_X12_readText_257 mI
    rw [h6, if_pos (show nI 6 = 6 from rfl), let_]
    show rFin (RT (n + 1) 1 (sI R 0 36 1)) R p
    rw [rt_bad (by simp only [s1, s2, l1, l2, upd_at, Nat.reduceEqDiff, reduceIte])]
    exact ⟨_, rfl, by simp only [s1, s2, l1, l2, upd_at, Nat.reduceEqDiff, reduceIte]; exact h1.2.1, by simp only [s1, s2, l1, l2, upd_at, Nat.reduceEqDiff, reduceIte], kpT_0 _ 36 _ (by omega)⟩
theorem part_not {by_ : Nat → Int32} {z d p : Nat} (hz : z ≤ 80) (hp : p ≤ z) (hd : d < 6) (hP : ∀ p, p ≤ z → PartOk by_ z (d + 1) p) (hs : bAt by_ z p = 33) : PartOk by_ z d p := by
  have hlt : p < z := bAt_lt (fun q => by rw [q] at hs; revert hs; decide +kernel)
  obtain ⟨o1, k1, k2, k3⟩ := hP (p + 1) (by omega)
  have cl : ∀ C L, cAt by_ z C p L → ∃ C1, cOut (sI C 9 4 (nI (p + 1))) C1 L o1 ∧ t_part (8 - d) (nI d) C = f_X8_put (-3) C1 := by
    intro C L h
    have ha := cAt_next (q := (p + 1, [])) h ⟨by omega, by omega, by show 0 + p ≤ p + 1; omega⟩ (adv_ok h hlt)
    obtain ⟨C1, g1, g2⟩ := k2 _ _ ha
    refine ⟨C1, g2, ?_⟩
    rw [show 8 - (d + 1) = 7 - d by omega] at g1
    rw [t_part_s (by omega)]
    unfold f_X8_readPart f_X8_readPart_17 f_X8_readDeeper mI
    rw [peek_ok h hz, bi_, hs, if_pos rfl, if_pos (show nI d < 6 from nI_lt (b := 6) hd (by omega)), let_, if_pos rfl, h.2.2.1, add1, add1, g1, bv_]
    cases f_X8_put (-3) C1 <;> rfl
  cases o1 with
  | inl f =>
    refine ⟨.inl f, ⟨by have := k1.1; omega, k1.2⟩, ?_, ?_⟩
    · intro C L h
      obtain ⟨C1, g1, g2⟩ := cl C L h
      obtain ⟨C2, e1, e2, e3⟩ := put_bad (-3) g1.2
      rw [g2, e1]
      exact ⟨C2, rfl, cFr_t (adv_ok h hlt).1 (cFr_t g1.1 e2), e3⟩
    · intro F R sg he hc h
      obtain ⟨R2, g1, g2, g3⟩ := push_ok (n := 0) h hz hlt hd hs (Or.inl rfl)
      obtain ⟨m, m1, m2⟩ := k3 F R2 (33 :: sg) he (corr_k hc g2) g1
      refine ⟨m + 1, by omega, fun n => ?_⟩
      rw [show n + (m + 1) = (n + m) + 1 by omega, g3]
      exact rFin_t g2 (m2 n)
  | inr q =>
    obtain ⟨kq1, kq2, kq3⟩ := k1
    have hlen : (q.2 ++ [(-3 : Int32)]).length + p ≤ q.1 := by
      rw [List.length_append]
      show q.2.length + 1 + p ≤ q.1
      omega
    refine ⟨.inr (q.1, q.2 ++ [-3]), ⟨by show p + 1 ≤ q.1; omega, kq2, hlen⟩, ?_, ?_⟩
    · intro C L h
      obtain ⟨C1, g1, g2⟩ := cl C L h
      have ha := cAt_next (q := (p + 1, [])) h ⟨by omega, by omega, by show 0 + p ≤ p + 1; omega⟩ (adv_ok h hlt)
      have hb := cAt_next (q := q) ha ⟨by show p + 1 + 0 ≤ q.1; omega, kq2, kq3⟩ g1
      have l2' := h.2.2.2.2.2.1
      obtain ⟨C2, e1, e2⟩ := put_ok (-3) hb (by show L + 0 + q.2.length < 80; omega)
      have s1' := cOut_app (q := (p + 1, [])) (o := .inr q) (adv_ok h hlt) g1
      have s2' := cOut_app (q := (q.1, q.2)) (o := .inr (q.1, [-3])) s1' e2
      rw [g2, e1]
      exact ⟨C2, rfl, s2'⟩
    · intro F R sg he hc h
      obtain ⟨R2, g1, g2, g3⟩ := push_ok (n := 0) h hz hlt hd hs (Or.inl rfl)
      obtain ⟨v, b, R3, kk, j, e1, e2, e3, e4, e5, e6, e7⟩ := k3 F R2 (33 :: sg) he (corr_k hc g2) g1
      obtain ⟨R4, w1, w2, w3⟩ := nots_step (n := mm_fu - (j + 1)) e5 hz
      refine ⟨if 0 < v then 0 else 1, if b = 0 then 1 else 0, R4, kk + 1, j + 1, fun st => ?_, ?_, by show kk + 1 + p ≤ q.1; omega, by show j + 1 + p ≤ q.1; omega, w2, kpT_t g2 (kpT_t e6 w3), fun n => ?_⟩
      · show ev F (q.2 ++ [-3]) st = _
        rw [ev_app, e1 st]
        rfl
      · rw [e2]
        by_cases y : 0 < v
        · rw [if_pos y, if_pos y, if_neg n10, if_neg nlt00]
        · rw [if_neg y, if_neg y, if_pos rfl, if_pos lt01]
      · have hfu : mm_fu = 100000 := rfl
        rw [show n + (kk + 1) = (n + kk) + 1 by omega, g3, e7, show mm_fu - j = (mm_fu - (j + 1)) + 1 by omega, w1]
theorem part_br {by_ : Nat → Int32} {z d p : Nat} (hz : z ≤ 80) (hp : p ≤ z) (hd : d < 6) (hP : ∀ p, p ≤ z → PartOk by_ z (d + 1) p) (hs : bAt by_ z p = 40) : PartOk by_ z d p := by
  have hlt : p < z := bAt_lt (fun q => by rw [q] at hs; revert hs; decide +kernel)
  obtain ⟨o1, k1, k0, k2, k3⟩ := cho_ok hz hP (show p + 1 ≤ z by omega)
  have cl : ∀ C L, cAt by_ z C p L → ∃ C1, cOut (sI C 9 4 (nI (p + 1))) C1 L o1 ∧ t_part (8 - d) (nI d) C = mm_bi (f_X8_peek C1) (fun r1 M3 => if r1 = (41 : Int32) then some (sI M3 9 4 ((mI M3 9 4) + (1 : Int32))) else f_X8_fail M3) := by
    intro C L h
    have ha := cAt_next (q := (p + 1, [])) h ⟨by omega, by omega, by show 0 + p ≤ p + 1; omega⟩ (adv_ok h hlt)
    obtain ⟨C1, g1, g2⟩ := k2 _ _ ha
    refine ⟨C1, g2, ?_⟩
    rw [show 8 - (d + 1) = 7 - d by omega] at g1
    rw [t_part_s (by omega)]
    unfold f_X8_readPart f_X8_readPart_17 f_X8_readDeeper mI
    rw [peek_ok h hz, bi_, hs, if_neg (by decide +kernel), if_pos rfl, if_pos (show nI d < 6 from nI_lt (b := 6) hd (by omega)), let_, if_neg (by decide +kernel), h.2.2.1, add1, add1, g1, bv_]
    cases f_X8_peek C1 with
    | none => rfl
    | some r =>
      rw [bi_, bi_]
      by_cases e : r.1 = 41
      · rw [if_pos e, if_pos e, let_, bv_]
      · rw [if_neg e, if_neg e]
        cases f_X8_fail r.2 <;> rfl
  cases o1 with
  | inl f =>
    have kf := k1.2
    refine ⟨.inl f, ⟨by have := k1.1; omega, k1.2⟩, ?_, ?_⟩
    · intro C L h
      obtain ⟨C1, g1, g2⟩ := cl C L h
      rw [g2, peek_bad g1.2 (by omega), bi_, if_neg (by decide +kernel), fail_bad g1.2 (by omega)]
      exact ⟨C1, rfl, cFr_t (adv_ok h hlt).1 g1.1, g1.2⟩
    · intro F R sg he hc h
      obtain ⟨R2, g1, g2, g3⟩ := push_ok (n := 0) h hz hlt hd hs (Or.inr rfl)
      obtain ⟨m, m1, m2⟩ := k3 F R2 (40 :: sg) he (corr_k hc g2) g1 (by show ¬ (40 : Int32) = 33; decide +kernel) (by show ¬ (40 : Int32) = 38; decide +kernel) (by show ¬ (40 : Int32) = 124; decide +kernel)
      refine ⟨m + 1, by omega, fun n => ?_⟩
      rw [show n + (m + 1) = (n + m) + 1 by omega, g3]
      exact rFin_t g2 (m2 n)
  | inr q =>
    obtain ⟨kq1, kq2, kq3⟩ := k1
    obtain ⟨n38, n124⟩ := k0 q rfl
    by_cases h41 : bAt by_ z q.1 = 41
    · have hl2 : q.1 < z := bAt_lt (fun w => by rw [w] at h41; revert h41; decide +kernel)
      refine ⟨.inr (q.1 + 1, q.2), ⟨by show p + 1 ≤ q.1 + 1; omega, hl2, by show q.2.length + p ≤ q.1 + 1; omega⟩, ?_, ?_⟩
      · intro C L h
        obtain ⟨C1, g1, g2⟩ := cl C L h
        have ha := cAt_next (q := (p + 1, [])) h ⟨by omega, by omega, by show 0 + p ≤ p + 1; omega⟩ (adv_ok h hlt)
        have hb := cAt_next (q := q) ha ⟨by show p + 1 + 0 ≤ q.1; omega, kq2, kq3⟩ g1
        have s1' := cOut_app (q := (p + 1, [])) (o := .inr q) (adv_ok h hlt) g1
        have s2' := cOut_app (q := (q.1, q.2)) (o := .inr (q.1 + 1, [])) s1' (adv_ok hb hl2)
        rw [g2, peek_ok hb hz, bi_, if_pos h41]
        unfold mI
        rw [hb.2.2.1, add1]
        refine ⟨_, rfl, ?_⟩
        have e : oApp q.2 (.inr (q.1 + 1, [])) = .inr (q.1 + 1, q.2) := by
          show Sum.inr (q.1 + 1, q.2 ++ []) = _
          rw [List.append_nil]
        rw [← e]
        exact s2'
      · intro F R sg he hc h
        obtain ⟨R2, g1, g2, g3⟩ := push_ok (n := 0) h hz hlt hd hs (Or.inr rfl)
        obtain ⟨v, b, R3, kk, e1, e2, e3, e5, e6, e7⟩ := k3 F R2 (40 :: sg) he (corr_k hc g2) g1 (by show ¬ (40 : Int32) = 33; decide +kernel) (by show ¬ (40 : Int32) = 38; decide +kernel) (by show ¬ (40 : Int32) = 124; decide +kernel)
        obtain ⟨R4, w1, w2, w3⟩ := set_1 e5 hz (by show ¬ (40 : Int32) = 38; decide +kernel) (by show ¬ (40 : Int32) = 124; decide +kernel)
        have w2' := w2
        obtain ⟨h1, h2, h3, h4, h5, h6, h7, h8, h9, h10⟩ := w2'
        have e39 : R4.1 0 39 - 1 = nI sg.length := by rw [h2]; exact nI_pred sg.length
        have e42 : R4.1 0 42 - 1 = nI d := by rw [h6]; exact nI_pred d
        have e35 : R4.1 0 35 + 1 = nI (q.1 + 1) := by rw [h1.2.1]; exact add1 q.1
        have l7 : sg.length + 1 ≤ q.1 := h7
        have hk : kpT R4 (sI (sI (sI R4 0 39 (nI sg.length)) 0 42 (nI d)) 0 35 (nI (q.1 + 1))) := kpT_t (kpT_0 _ 39 _ (by omega)) (kpT_t (kpT_0 _ 42 _ (by omega)) (kpT_0 _ 35 _ (by omega)))
        refine ⟨v, b, sI (sI (sI R4 0 39 (nI sg.length)) 0 42 (nI d)) 0 35 (nI (q.1 + 1)), kk + 1 + 1, 0, e1, e2, by show kk + 1 + 1 + p ≤ q.1 + 1; omega, by show 0 + p ≤ q.1 + 1; omega, ⟨⟨by rw [hk.2 34 (by omega) (by omega) (by omega) (by omega) (by omega)]; exact h1.1, by simp only [s1, s2, l1, l2, upd_at, Nat.reduceEqDiff, reduceIte], by simp only [s1, s2, l1, l2, upd_at, Nat.reduceEqDiff, reduceIte]; exact h1.2.2.1, fun k hk2 => by rw [hk.1 24 (by omega) (by omega) (by omega)]; exact h1.2.2.2.1 k hk2, hl2⟩, by simp only [s1, s2, l1, l2, upd_at, Nat.reduceEqDiff, reduceIte], by simp only [s1, s2, l1, l2, upd_at, Nat.reduceEqDiff, reduceIte]; exact h3.2, by simp only [s1, s2, l1, l2, upd_at, Nat.reduceEqDiff, reduceIte]; exact h4, by simp only [s1, s2, l1, l2, upd_at, Nat.reduceEqDiff, reduceIte]; exact h5, by simp only [s1, s2, l1, l2, upd_at, Nat.reduceEqDiff, reduceIte], by show sg.length ≤ q.1 + 1; omega, Nat.le_succ_of_le h8, by omega, h10⟩, kpT_t g2 (kpT_t e6 (kpT_t w3 hk)), fun n => ?_⟩
        rw [show n + (kk + 1 + 1) = (n + 1 + kk) + 1 by omega, g3, e7, rt_0 (cPend_at e5) hz hl2, h41]
        unfold f_X12_readText_109 f_X12_readText_257 mI
        rw [if_pos rfl, if_neg (by decide +kernel), if_neg (by decide +kernel), if_pos rfl, w1, bv_, top_ok w2 hz, bi_, if_pos (show top_ (40 :: sg) = 40 from rfl), let_, let_, let_]
        simp only [s1, s2, l1, l2, upd_at, Nat.reduceEqDiff, reduceIte, e39, e42, e35]
        rfl
    · refine ⟨.inl q.1, ⟨by omega, kq2⟩, ?_, ?_⟩
      · intro C L h
        obtain ⟨C1, g1, g2⟩ := cl C L h
        have ha := cAt_next (q := (p + 1, [])) h ⟨by omega, by omega, by show 0 + p ≤ p + 1; omega⟩ (adv_ok h hlt)
        have hb := cAt_next (q := q) ha ⟨by show p + 1 + 0 ≤ q.1; omega, kq2, kq3⟩ g1
        obtain ⟨C2, e1, e2⟩ := fail_ok hb hz
        rw [g2, peek_ok hb hz, bi_, if_neg h41, e1]
        exact ⟨C2, rfl, cFr_t (adv_ok h hlt).1 (cFr_t g1.1 e2.1), e2.2⟩
      · intro F R sg he hc h
        obtain ⟨R2, g1, g2, g3⟩ := push_ok (n := 0) h hz hlt hd hs (Or.inr rfl)
        obtain ⟨v, b, R3, kk, e1, e2, e3, e5, e6, e7⟩ := k3 F R2 (40 :: sg) he (corr_k hc g2) g1 (by show ¬ (40 : Int32) = 33; decide +kernel) (by show ¬ (40 : Int32) = 38; decide +kernel) (by show ¬ (40 : Int32) = 124; decide +kernel)
        refine ⟨kk + 3, by omega, fun n => ?_⟩
        rw [show n + (kk + 3) = (n + 1 + 1 + kk) + 1 by omega, g3, e7]
        refine rFin_t (kpT_t g2 e6) ?_
        by_cases hl2 : q.1 < z
        · rw [rt_0 (cPend_at e5) hz hl2]
          unfold f_X12_readText_109 f_X12_readText_257
          rw [if_pos rfl, if_neg n38, if_neg n124, if_neg h41, let_]
          show rFin (RT (n + 1) 0 (sI R3 0 36 1)) R3 q.1
          rw [rt_bad (by simp only [s1, s2, l1, l2, upd_at, Nat.reduceEqDiff, reduceIte])]
          exact ⟨_, rfl, by simp only [s1, s2, l1, l2, upd_at, Nat.reduceEqDiff, reduceIte]; exact (cPend_at e5).2.1, by simp only [s1, s2, l1, l2, upd_at, Nat.reduceEqDiff, reduceIte], kpT_0 _ 36 _ (by omega)⟩
        · have hqz : q.1 = z := by omega
          have hat := cPend_at e5
          rw [hqz] at hat
          obtain ⟨R4, w1, w2, w3⟩ := set_1 e5 hz (by show ¬ (40 : Int32) = 38; decide +kernel) (by show ¬ (40 : Int32) = 124; decide +kernel)
          have e39 : R4.1 0 39 = nI (sg.length + 1) := w2.2.1
          have l7 : sg.length + 1 ≤ q.1 := w2.2.2.2.2.2.2.1
          rw [rt_e hat hz, w1, bv_]
          unfold f_X12_readText_285 f_X12_readText_288 mI
          rw [e39, if_neg (nI_nle (by omega) (by omega)), bz1, let_]
          simp only [s1, s2, l1, l2, upd_at, Nat.reduceEqDiff, reduceIte, n10]
          exact ⟨_, rfl, by simp only [s1, s2, l1, l2, upd_at, Nat.reduceEqDiff, reduceIte]; exact w2.1.2.1, by simp only [s1, s2, l1, l2, upd_at, Nat.reduceEqDiff, reduceIte], kpT_t w3 (kpT_0 _ 36 _ (by omega))⟩
theorem part_all {by_ : Nat → Int32} {z : Nat} (hz : z ≤ 80) : ∀ (m d : Nat), d + m = 6 → ∀ p, p ≤ z → PartOk by_ z d p := by
  intro m
  induction m with
  | zero =>
    intro d hd p hp
    obtain rfl : d = 6 := by omega
    by_cases h33 : bAt by_ z p = 33
    · exact part_deep hz hp (Or.inl h33)
    · by_cases h40 : bAt by_ z p = 40
      · exact part_deep hz hp (Or.inr h40)
      · exact part_ok_e hz hp (by omega) h33 h40
  | succ m ih =>
    intro d hd p hp
    by_cases h33 : bAt by_ z p = 33
    · exact part_not hz hp (by omega) (ih (d + 1) (by omega)) h33
    · by_cases h40 : bAt by_ z p = 40
      · exact part_br hz hp (by omega) (ih (d + 1) (by omega)) h40
      · exact part_ok_e hz hp (by omega) h33 h40

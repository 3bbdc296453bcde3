theorem cOut_r {by_ : Nat → Int32} {z p L : Nat} {C : mm_M} (h : cAt by_ z C p L) : cOut C C L (.inr (p, [])) := ⟨cFr_r C, h.2.2.1, h.2.2.2.1, h.2.2.2.2.1, fun _ _ => rfl, fun i hi => absurd hi (by show ¬ i < 0; omega)⟩
theorem rOut_r {by_ : Nat → Int32} {z p : Nat} {R : mm_M} {c : List Int32} (h : rAt by_ z R p) : rOut R R (.inr (p, c)) := ⟨rFr_r R, h.2.1, h.2.2.1⟩
theorem sum6_bad {C : mm_M} {f n : Nat} {x : Int32} (h : cBad C f) (hf : f ≤ 80) (hn : 0 < n) : f_X8_readSum_6 n x C = some C := by
  obtain ⟨n, rfl⟩ : ∃ q, n = q + 1 := ⟨n - 1, by omega⟩
  unfold f_X8_readSum_6
  by_cases e : (80 : Int32) ≤ x
  · rw [if_pos e]
  · rw [if_neg e, peek_bad h hf, bi_, if_neg (by decide +kernel), if_neg (by decide +kernel)]
theorem sum5_bad {R : mm_M} {n : Nat} {v : Int32} (h : R.1 0 36 = 1) (hn : 0 < n) : f_X12_readSum_5 n v R = some (v, R) := by
  obtain ⟨n, rfl⟩ : ∃ q, n = q + 1 := ⟨n - 1, by omega⟩
  unfold f_X12_readSum_5 mI
  rw [h, if_neg n10]
/-- the unit behind a sign, and the sign's token -/
theorem sum_l {by_ : Nat → Int32} {z : Nat} (hz : z ≤ 80) : ∀ (k p : Nat), z - p ≤ k → p ≤ z → SumL by_ z p := by
  intro k
  induction k with
  | zero =>
    intro p h1 h2
    obtain rfl : p = z := by omega
    have hb : bAt by_ p p = -1 := if_neg (by omega)
    refine ⟨.inr (p, []), ⟨Nat.le_refl _, Nat.le_refl _, by show 0 + p ≤ p; omega⟩, ?_, ?_⟩
    · intro C L i n h hi hn
      refine ⟨C, ?_, cOut_r h⟩
      obtain ⟨n, rfl⟩ : ∃ q, n = q + 1 := ⟨n - 1, by omega⟩
      unfold f_X8_readSum_6
      by_cases e : (80 : Int32) ≤ nI i
      · rw [if_pos e]
      · rw [if_neg e, peek_ok h hz, bi_, hb, if_neg (by decide +kernel), if_neg (by decide +kernel)]
    · intro F R v n hc h hn
      obtain ⟨n, rfl⟩ : ∃ q, n = q + 1 := ⟨n - 1, by omega⟩
      refine ⟨v, R, ?_, rOut_r h, fun st => rfl⟩
      unfold f_X12_readSum_5 mI
      rw [h.2.2.1, if_pos rfl, h.2.1, byte_ok h hz, bi_, hb, if_neg (by decide +kernel), h.2.1, byte_ok h hz, bi_, hb, if_neg (by decide +kernel)]
  | succ k ih =>
    intro p h1 h2
    by_cases hs : bAt by_ z p = 43 ∨ bAt by_ z p = 45
    · have hlt : p < z := bAt_lt (fun q => by rw [q] at hs; revert hs; decide +kernel)
      obtain ⟨o1, k1, k2, k3⟩ := unit_ok (by_ := by_) (z := z) (p := p + 1) hz (by omega)
      obtain ⟨t, ht⟩ : ∃ t : Int32, t = if bAt by_ z p = 43 then -7 else -8 := ⟨_, rfl⟩
      -- the class, up to the token
      have cl : ∀ C L i n, cAt by_ z C p L → i ≤ p → ∃ C1 C2, cOut (sI C 9 4 (nI (p + 1))) C1 L o1 ∧ f_X8_put t C1 = some C2 ∧ f_X8_readSum_6 (n + 1) (nI i) C = f_X8_readSum_6 n (nI (i + 1)) C2 ∨ False := by
        intro C L i n h hi
        have ha := cAt_next (q := (p + 1, [])) h ⟨by omega, by omega, by show 0 + p ≤ p + 1; omega⟩ (adv_ok h hlt)
        obtain ⟨C1, g1, g2⟩ := k2 _ _ ha
        have hput : ∃ C2, f_X8_put t C1 = some C2 := by
          cases o1 with
          | inl f =>
            obtain ⟨C2, g3, _⟩ := put_bad t g2.2
            exact ⟨C2, g3⟩
          | inr q =>
            have hb := cAt_next (q := q) ha ⟨by have := k1.1; omega, k1.2.1, by exact k1.2.2⟩ g2
            have l1 := k1.2.2
            have l2' := h.2.2.2.2.2.1
            have l3' := k1.2.1
            obtain ⟨C2, g3, _⟩ := put_ok t hb (by show L + 0 + q.2.length < 80; omega)
            exact ⟨C2, g3⟩
        obtain ⟨C2, g3⟩ := hput
        refine ⟨C1, C2, Or.inl ⟨g2, g3, ?_⟩⟩
        conv => lhs; unfold f_X8_readSum_6 f_X8_readSum_32 f_X8_readSum_60
        rw [if_neg (show ¬ (80 : Int32) ≤ nI i from nI_ge (b := 80) (by omega) (by decide)), peek_ok h hz, bi_]
        unfold mI
        rcases hs with e | e
        · rw [e, if_pos rfl] at ht
          rw [ht] at g3
          rw [e, if_pos rfl, let_, h.2.2.1, add1, g1, bv_, if_pos rfl, g3, bv_, add1]
        · rw [e, if_neg (by decide +kernel)] at ht
          rw [ht] at g3
          rw [e, if_neg (by decide +kernel), if_pos rfl, let_, h.2.2.1, add1, g1, bv_, if_neg (by decide +kernel), g3, bv_, add1]
      -- the reference
      have rf : ∀ F R v n, corr F (R.1 25) → rAt by_ z R p → ∃ u R1, rOut (sI R 0 35 (nI (p + 1))) R1 o1 ∧ evV F u o1 ∧ f_X12_readSum_5 (n + 1) v R = f_X12_readSum_5 n (if bAt by_ z p = 43 then v + u else v + -u) R1 := by
        intro F R v n hc h
        obtain ⟨u, R1, g1, g2, g3⟩ := k3 F (sI R 0 35 (nI (p + 1))) (by simp only [s1, s2, l1, l2, upd_at, Nat.reduceEqDiff, reduceIte]; exact hc) (rAt_next h (by omega))
        refine ⟨u, R1, g2, g3, ?_⟩
        conv => lhs; unfold f_X12_readSum_5 f_X12_readSum_38 f_X12_readSum_56 f_X12_readSum_83
        unfold mI
        rcases hs with e | e
        · rw [h.2.2.1, if_pos rfl, h.2.1, byte_ok h hz, bi_, e, if_pos rfl, h.2.1, byte_ok h hz, bi_, e, if_pos rfl, let_, h.2.1, add1, g1, bi_, if_neg n10, let_, if_pos rfl]
        · have e43 : ¬ (45 : Int32) = 43 := by decide +kernel
          rw [h.2.2.1, if_pos rfl, h.2.1, byte_ok h hz, bi_, e, if_neg e43, h.2.1, byte_ok h hz, bi_, e, if_pos rfl, h.2.1, byte_ok h hz, bi_, e, if_neg e43, let_, h.2.1, add1, g1, bi_, if_pos rfl, let_, if_neg e43]
      cases o1 with
      | inl f =>
        have kf := k1.2
        refine ⟨.inl f, ⟨by have := k1.1; omega, kf⟩, ?_, ?_⟩
        · intro C L i n h hi hn
          obtain ⟨n, rfl⟩ : ∃ q, n = q + 1 := ⟨n - 1, by omega⟩
          obtain ⟨C1, C2, ⟨g1, g2, g3⟩ | w⟩ := cl C L i n h hi
          · obtain ⟨C3, e1, e2, e3⟩ := put_bad t g1.2
            rw [g2] at e1
            obtain rfl := Option.some.inj e1
            rw [g3, sum6_bad e3 (by omega) (by omega)]
            have ad := (adv_ok h hlt).1
            exact ⟨C2, rfl, cFr_t ad (cFr_t g1.1 e2), e3⟩
          · exact w.elim
        · intro F R v n hc h hn
          obtain ⟨n, rfl⟩ : ∃ q, n = q + 1 := ⟨n - 1, by omega⟩
          obtain ⟨u, R1, g1, g2, g3⟩ := rf F R v n hc h
          rw [g3, sum5_bad g1.2.2 (by omega)]
          exact ⟨_, R1, rfl, rOut_t (rFr_35 _ _) g1, trivial⟩
      | inr q =>
        obtain ⟨kq1, kq2, kq3⟩ := k1
        obtain ⟨o3, m1, m2, m3⟩ := ih q.1 (by omega) kq2
        refine ⟨oApp (q.2 ++ [t]) o3, ?_, ?_, ?_⟩
        · refine oOk_app (e := 0) (e' := 0) (q := (q.1, q.2 ++ [t])) ⟨by show p + 0 ≤ q.1; omega, kq2, ?_⟩ m1
          show (q.2 ++ [t]).length + p ≤ q.1
          rw [List.length_append]
          show q.2.length + 1 + p ≤ q.1
          omega
        · intro C L i n h hi hn
          obtain ⟨n, rfl⟩ : ∃ q, n = q + 1 := ⟨n - 1, by omega⟩
          obtain ⟨C1, C2, ⟨g1, g2, g3⟩ | w⟩ := cl C L i n h hi
          · have ha := cAt_next (q := (p + 1, [])) h ⟨by omega, by omega, by show 0 + p ≤ p + 1; omega⟩ (adv_ok h hlt)
            have hb := cAt_next (q := q) ha ⟨by show p + 1 + 0 ≤ q.1; omega, kq2, kq3⟩ g1
            have l2' := h.2.2.2.2.2.1
            obtain ⟨C3, e1, e2⟩ := put_ok t hb (by show L + 0 + q.2.length < 80; omega)
            rw [g2] at e1
            obtain rfl := Option.some.inj e1
            have s1' := cOut_app (q := (p + 1, [])) (o := .inr q) (adv_ok h hlt) g1
            have s2' := cOut_app (q := (q.1, q.2)) (o := .inr (q.1, [t])) s1' e2
            have hd := cAt_next (q := (q.1, q.2 ++ [t])) h ⟨by show p + 0 ≤ q.1; omega, kq2, by
              show (q.2 ++ [t]).length + p ≤ q.1
              rw [List.length_append]
              show q.2.length + 1 + p ≤ q.1
              omega⟩ s2'
            obtain ⟨C4, e3, e4⟩ := m2 C2 _ (i + 1) n hd (by omega) (by omega)
            rw [g3, e3]
            exact ⟨C4, rfl, cOut_app s2' e4⟩
          · exact w.elim
        · intro F R v n hc h hn
          obtain ⟨n, rfl⟩ : ∃ q, n = q + 1 := ⟨n - 1, by omega⟩
          obtain ⟨u, R1, g1, g2, g3⟩ := rf F R v n hc h
          have hR1 : rAt by_ z R1 q.1 := rAt_of (rAt_next h (by omega)) kq2 g1
          obtain ⟨v', R2, e1, e2, e3⟩ := m3 F R1 (if bAt by_ z p = 43 then v + u else v + -u) n (by rw [g1.1.1 25 (by omega)]; simp only [s1, s2, l1, l2, upd_at, Nat.reduceEqDiff, reduceIte]; exact hc) hR1 (by omega)
          rw [g3, e1]
          refine ⟨v', R2, rfl, ?_, ?_⟩
          · have := rOut_t (rFr_t (rFr_35 R (nI (p + 1))) g1.1) e2
            cases o3 with
            | inl f => exact this
            | inr w => exact this
          · cases o3 with
            | inl f => trivial
            | inr w =>
              intro st
              show ev F ((q.2 ++ [t]) ++ w.2) (v :: st) = v' :: st
              rw [ev_app, ev_app, g2 (v :: st), ← e3 st]
              congr 1
              show ev1 F t (u :: v :: st) = _
              rw [ht]
              rcases hs with e | e
              · rw [e, if_pos rfl, if_pos rfl]
                rfl
              · have e43 : ¬ (45 : Int32) = 43 := by decide +kernel
                rw [e, if_neg e43, if_neg e43, ← Int32.sub_eq_add_neg]
                rfl
    · have n43 : ¬ bAt by_ z p = 43 := fun q => hs (Or.inl q)
      have n45 : ¬ bAt by_ z p = 45 := fun q => hs (Or.inr q)
      refine ⟨.inr (p, []), ⟨Nat.le_refl _, h2, by show 0 + p ≤ p; omega⟩, ?_, ?_⟩
      · intro C L i n h hi hn
        refine ⟨C, ?_, cOut_r h⟩
        obtain ⟨n, rfl⟩ : ∃ q, n = q + 1 := ⟨n - 1, by omega⟩
        unfold f_X8_readSum_6
        by_cases e : (80 : Int32) ≤ nI i
        · rw [if_pos e]
        · rw [if_neg e, peek_ok h hz, bi_, if_neg n43, if_neg n45]
      · intro F R v n hc h hn
        obtain ⟨n, rfl⟩ : ∃ q, n = q + 1 := ⟨n - 1, by omega⟩
        refine ⟨v, R, ?_, rOut_r h, fun st => rfl⟩
        unfold f_X12_readSum_5 mI
        rw [h.2.2.1, if_pos rfl, h.2.1, byte_ok h hz, bi_, if_neg n43, h.2.1, byte_ok h hz, bi_, if_neg n45]

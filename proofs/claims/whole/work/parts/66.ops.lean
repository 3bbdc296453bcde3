def SumOk (by_ : Nat → Int32) (z p : Nat) : Prop := ∃ o, oOk z p 1 o ∧ (∀ C L, cAt by_ z C p L → ∃ C', f_X8_readSum C = some C' ∧ cOut C C' L o) ∧ ∀ F R, corr F (R.1 25) → rAt by_ z R p → ∃ v R', f_X12_readSum R = some (v, R') ∧ rOut R R' o ∧ evV F v o
theorem oOk_w {z p : Nat} {q : Nat × List Int32} (h : oOk z p 1 (.inr q)) : oOk z p 0 (.inr q) := ⟨by have := h.1; omega, h.2.1, h.2.2⟩
theorem sum_ok {by_ : Nat → Int32} {z p : Nat} (hz : z ≤ 80) (hp : p ≤ z) : SumOk by_ z p := by
  obtain ⟨o1, k1, k2, k3⟩ := unit_ok (by_ := by_) hz hp
  cases o1 with
  | inl f =>
    refine ⟨.inl f, k1, ?_, ?_⟩
    · intro C L h
      obtain ⟨C1, g1, g2⟩ := k2 C L h
      unfold f_X8_readSum
      rw [g1, bv_, sum6_bad g2.2 (by have := k1.2; omega) (fuGt (by omega))]
      exact ⟨C1, rfl, g2⟩
    · intro F R hc h
      obtain ⟨v, R1, g1, g2, g3⟩ := k3 F R hc h
      unfold f_X12_readSum
      rw [g1, bi_, sum5_bad g2.2.2 (fuGt (by omega))]
      exact ⟨v, R1, rfl, g2, trivial⟩
  | inr q =>
    obtain ⟨o2, m1, m2, m3⟩ := sum_l (by_ := by_) hz (z - q.1) q.1 (Nat.le_refl _) k1.2.1
    refine ⟨oApp q.2 o2, oOk_app k1 m1, ?_, ?_⟩
    · intro C L h
      obtain ⟨C1, g1, g2⟩ := k2 C L h
      have hb := cAt_next h (oOk_w k1) g2
      obtain ⟨C2, g3, g4⟩ := m2 C1 _ 0 mm_fu hb (by omega) (by show 80 < 100000 + q.1; omega)
      unfold f_X8_readSum
      rw [g1, bv_, show (0 : Int32) = nI 0 from rfl, g3]
      exact ⟨C2, rfl, cOut_app g2 g4⟩
    · intro F R hc h
      obtain ⟨v, R1, g1, g2, g3⟩ := k3 F R hc h
      obtain ⟨v', R2, g4, g5, g6⟩ := m3 F R1 v mm_fu (by rw [g2.1.1 25 (by omega)]; exact hc) (rAt_of h k1.2.1 g2) (by show 82 < 100000 + q.1; omega)
      unfold f_X12_readSum
      rw [g1, bi_, g4]
      refine ⟨v', R2, rfl, ?_, ?_⟩
      · cases o2 with
        | inl f => exact rOut_t g2.1 g5
        | inr w => exact rOut_t g2.1 g5
      · cases o2 with
        | inl f => trivial
        | inr w =>
          intro st
          show ev F (q.2 ++ w.2) st = _
          rw [ev_app, g3 st, g6 st]
/-- a part that is no '!' and no '(' -/
def PartE (by_ : Nat → Int32) (z p : Nat) : Prop := ∃ o, oOk z p 1 o ∧ (∀ rd a C L, cAt by_ z C p L → ∃ C', f_X8_readPart rd a C = some C' ∧ cOut C C' L o) ∧ ∀ F R, corr F (R.1 25) → rAt by_ z R p → ∃ b R', f_X12_readPart R = some (b, R') ∧ rOut R R' o ∧ (b = 0 ∨ b = 1) ∧ ∀ q, o = .inr q → ∃ v, (∀ st, ev F q.2 st = v :: st) ∧ b = if 0 < v then 1 else 0
theorem p26 (x : Int32) (M : mm_M) : f_X12_readPart_26 x M = some (if 0 < x then 1 else 0, M) := by
  unfold f_X12_readPart_26
  by_cases e : x ≤ 0
  · rw [if_pos e, if_neg (by rw [Int32.lt_iff_toInt_lt]; rw [Int32.le_iff_toInt_le] at e; omega)]
  · rw [if_neg e, if_pos (by rw [Int32.lt_iff_toInt_lt]; rw [Int32.le_iff_toInt_le] at e; omega)]
theorem ite01 (P : Prop) [Decidable P] : (if P then (1 : Int32) else 0) = 0 ∨ (if P then (1 : Int32) else 0) = 1 := by
  split
  · exact Or.inr rfl
  · exact Or.inl rfl
def tkS (s : Int32) : Int32 := if s = 60 then -4 else if s = 61 then -5 else -6
theorem bad_p {C : mm_M} {f : Nat} (h : cBad C f) (hf : f ≤ 80) (rd : Int32 → Int32 → mm_M → Option mm_M) : (mm_bi (f_X8_peek C) (fun r2 M3 => if r2 = (60 : Int32) then f_X8_readPart_51 rd r2 M3 else if r2 = (61 : Int32) then f_X8_readPart_51 rd r2 M3 else if r2 = (62 : Int32) then f_X8_readPart_51 rd r2 M3 else some M3)) = some C := by
  rw [peek_bad h hf, bi_, if_neg (by decide +kernel), if_neg (by decide +kernel), if_neg (by decide +kernel)]
theorem sg_c {s : Int32} (h : s = 60 ∨ s = 61 ∨ s = 62) {α : Type} (X Y : Option α) : (if s = 60 then X else if s = 61 then X else if s = 62 then X else Y) = X := by
  rcases h with rfl | rfl | rfl <;> rfl
theorem sg_r {s : Int32} (h : s = 60 ∨ s = 61 ∨ s = 62) (M : mm_M) : f_X12_isSign s M = some (1, M) := by
  rcases h with rfl | rfl | rfl <;> rfl
theorem sg_n {s : Int32} (h : ¬ (s = 60 ∨ s = 61 ∨ s = 62)) (M : mm_M) : f_X12_isSign s M = some (0, M) := by
  unfold f_X12_isSign
  rw [if_neg (fun q => h (Or.inl q)), if_neg (fun q => h (Or.inr (Or.inl q))), if_neg (fun q => h (Or.inr (Or.inr q)))]
theorem p51 {s : Int32} (rd : Int32 → Int32 → mm_M → Option mm_M) (M : mm_M) : f_X8_readPart_51 rd s M = mm_bv (f_X8_readSum (sI M 9 4 (M.1 9 4 + 1))) (fun M2 => f_X8_put (tkS s) M2) := by
  have e : ∀ M2 t, mm_bv (f_X8_put t M2) (fun M1 => some M1) = f_X8_put t M2 := by
    intro M2 t
    cases f_X8_put t M2 <;> rfl
  unfold f_X8_readPart_51 f_X8_readPart_90 mI tkS
  rw [let_]
  simp only [e]
  congr 1
  funext M2
  split
  · rfl
  · split <;> rfl
theorem part_e {by_ : Nat → Int32} {z p : Nat} (hz : z ≤ 80) (hp : p ≤ z) (n33 : ¬ bAt by_ z p = 33) (n40 : ¬ bAt by_ z p = 40) : PartE by_ z p := by
  obtain ⟨o1, k1, k2, k3⟩ := sum_ok (by_ := by_) hz hp
  have cl : ∀ rd a C L, cAt by_ z C p L → ∃ C1, cOut C C1 L o1 ∧ f_X8_readPart rd a C = (mm_bi (f_X8_peek C1) (fun r2 M3 => if r2 = (60 : Int32) then f_X8_readPart_51 rd r2 M3 else if r2 = (61 : Int32) then f_X8_readPart_51 rd r2 M3 else if r2 = (62 : Int32) then f_X8_readPart_51 rd r2 M3 else some M3)) := by
    intro rd a C L h
    obtain ⟨C1, g1, g2⟩ := k2 C L h
    refine ⟨C1, g2, ?_⟩
    unfold f_X8_readPart
    rw [peek_ok h hz, bi_, if_neg n33, if_neg n40, g1, bv_]
  cases o1 with
  | inl f =>
    refine ⟨.inl f, k1, ?_, ?_⟩
    · intro rd a C L h
      obtain ⟨C1, g1, g2⟩ := cl rd a C L h
      rw [g2, bad_p g1.2 (by have := k1.2; omega)]
      exact ⟨C1, rfl, g1⟩
    · intro F R hc h
      obtain ⟨v, R1, g1, g2, g3⟩ := k3 F R hc h
      unfold f_X12_readPart mI
      rw [g1, bi_, g2.2.2, if_neg n10, p26]
      exact ⟨_, R1, rfl, g2, ite01 _, fun q hq => by cases hq⟩
  | inr q =>
    have hq2 := k1.2.1
    by_cases hs : bAt by_ z q.1 = 60 ∨ bAt by_ z q.1 = 61 ∨ bAt by_ z q.1 = 62
    · have hlt : q.1 < z := bAt_lt (fun w => by rw [w] at hs; revert hs; decide +kernel)
      obtain ⟨o2, m1, m2, m3⟩ := sum_ok (by_ := by_) (z := z) (p := q.1 + 1) hz (by omega)
      have cl2 : ∀ rd a C L, cAt by_ z C p L → ∃ C1 C2, cOut C C1 L (.inr q) ∧ cAt by_ z C1 q.1 (L + q.2.length) ∧ cOut (sI C1 9 4 (nI (q.1 + 1))) C2 (L + q.2.length) o2 ∧ f_X8_readPart rd a C = f_X8_put (tkS (bAt by_ z q.1)) C2 := by
        intro rd a C L h
        obtain ⟨C1, g1, g2⟩ := cl rd a C L h
        have hb := cAt_next h (oOk_w k1) g1
        obtain ⟨C2, g3, g4⟩ := m2 _ _ (cAt_next (q := (q.1 + 1, [])) hb ⟨by show q.1 + 0 ≤ q.1 + 1; omega, by show q.1 + 1 ≤ z; omega, by show 0 + q.1 ≤ q.1 + 1; omega⟩ (adv_ok hb hlt))
        refine ⟨C1, C2, g1, hb, g4, ?_⟩
        rw [g2, peek_ok hb hz, bi_, sg_c hs, p51, hb.2.2.1, add1, g3, bv_]
      have rf2 : ∀ F R, corr F (R.1 25) → rAt by_ z R p → ∃ v R1 w R2, rOut R R1 (.inr q) ∧ evV F v (.inr q) ∧ rOut (sI R1 0 35 (nI (q.1 + 1))) R2 o2 ∧ evV F w o2 ∧ f_X12_readPart R = some (if 0 < evJ (tkS (bAt by_ z q.1)) v w then 1 else 0, R2) := by
        intro F R hc h
        obtain ⟨v, R1, g1, g2, g3⟩ := k3 F R hc h
        have hR1 := rAt_of h hq2 g2
        obtain ⟨w, R2, g4, g5, g6⟩ := m3 F (sI R1 0 35 (nI (q.1 + 1))) (by simp only [s1, s2, l1, l2, upd_at, Nat.reduceEqDiff, reduceIte]; rw [g2.1.1 25 (by omega)]; exact hc) (rAt_next hR1 (by omega))
        refine ⟨v, R1, w, R2, g2, g3, g5, g6, ?_⟩
        unfold f_X12_readPart mI
        rw [g1, bi_, g2.2.2, if_pos rfl, g2.2.1, byte_ok hR1 hz, bi_, sg_r hs, bi_, if_neg n10, g2.2.1, byte_ok hR1 hz, bi_, let_, g2.2.1, add1, g4, bi_]
        rcases hs with e | e | e
        · rw [e, if_pos rfl]
          show _ = some (if 0 < (if v < w then (1 : Int32) else 0) then 1 else 0, R2)
          by_cases y : v < w
          · rw [if_pos y, if_neg (by rw [Int32.le_iff_toInt_le]; rw [Int32.lt_iff_toInt_lt] at y; omega)]
            rfl
          · rw [if_neg y, if_pos (by rw [Int32.le_iff_toInt_le]; rw [Int32.lt_iff_toInt_lt] at y; omega)]
            rfl
        · rw [e, if_neg (by decide +kernel), if_pos rfl]
          show _ = some (if 0 < (if v = w then (1 : Int32) else 0) then 1 else 0, R2)
          by_cases y : v = w
          · rw [if_pos y, if_pos y]
            rfl
          · rw [if_neg y, if_neg y]
            rfl
        · rw [e, if_neg (by decide +kernel), if_neg (by decide +kernel)]
          show _ = some (if 0 < (if w < v then (1 : Int32) else 0) then 1 else 0, R2)
          by_cases y : w < v
          · rw [if_pos y, if_neg (by rw [Int32.le_iff_toInt_le]; rw [Int32.lt_iff_toInt_lt] at y; omega)]
            rfl
          · rw [if_neg y, if_pos (by rw [Int32.le_iff_toInt_le]; rw [Int32.lt_iff_toInt_lt] at y; omega)]
            rfl
      cases o2 with
      | inl f =>
        refine ⟨.inl f, ⟨by have := m1.1; have := k1.1; omega, m1.2⟩, ?_, ?_⟩
        · intro rd a C L h
          obtain ⟨C1, C2, g1, g2, g3, g4⟩ := cl2 rd a C L h
          obtain ⟨C3, e1, e2, e3⟩ := put_bad (tkS (bAt by_ z q.1)) g3.2
          rw [g4, e1]
          exact ⟨C3, rfl, cFr_t g1.1 (cFr_t (adv_ok g2 hlt).1 (cFr_t g3.1 e2)), e3⟩
        · intro F R hc h
          obtain ⟨v, R1, w, R2, g1, g2, g3, g4, g5⟩ := rf2 F R hc h
          rw [g5]
          exact ⟨_, R2, rfl, rOut_t (rFr_t g1.1 (rFr_35 _ _)) g3, ite01 _, fun q hq => by cases hq⟩
      | inr r =>
        have hr2 := m1.2.1
        have hr3 := m1.2.2
        have hq3 := k1.2.2
        refine ⟨.inr (r.1, (q.2 ++ r.2) ++ [tkS (bAt by_ z q.1)]), ⟨?_, hr2, ?_⟩, ?_, ?_⟩
        · have := k1.1
          have := m1.1
          show p + 1 ≤ r.1
          omega
        · show ((q.2 ++ r.2) ++ [_]).length + p ≤ r.1
          rw [List.length_append, List.length_append]
          show q.2.length + r.2.length + 1 + p ≤ r.1
          omega
        · intro rd a C L h
          obtain ⟨C1, C2, g1, g2, g3, g4⟩ := cl2 rd a C L h
          have s1' := cOut_app (q := q) (o := .inr (q.1 + 1, [])) g1 (adv_ok g2 hlt)
          have s2' := cOut_app (q := (q.1 + 1, q.2 ++ [])) (o := .inr r) s1' (by show cOut _ _ (L + (q.2 ++ []).length) _; rw [List.append_nil]; exact g3)
          have s2'' : cOut C C2 L (.inr (r.1, q.2 ++ r.2)) := by
            have e : oApp (q.2 ++ []) (.inr r) = .inr (r.1, q.2 ++ r.2) := by
              rw [List.append_nil]
              rfl
            rw [← e]
            exact s2'
          have hl := h.2.2.2.2.2.1
          have hb := cAt_next (q := (r.1, q.2 ++ r.2)) h ⟨by have := k1.1; have := m1.1; show p + 0 ≤ r.1; omega, hr2, by show (q.2 ++ r.2).length + p ≤ r.1; rw [List.length_append]; omega⟩ s2''
          obtain ⟨C3, e1, e2⟩ := put_ok (tkS (bAt by_ z q.1)) hb (by show L + (q.2 ++ r.2).length < 80; rw [List.length_append]; omega)
          rw [g4, e1]
          exact ⟨C3, rfl, cOut_app (q := (r.1, q.2 ++ r.2)) (o := .inr (r.1, [tkS (bAt by_ z q.1)])) s2'' e2⟩
        · intro F R hc h
          obtain ⟨v, R1, w, R2, g1, g2, g3, g4, g5⟩ := rf2 F R hc h
          rw [g5]
          refine ⟨_, R2, rfl, rOut_t (rFr_t g1.1 (rFr_35 _ _)) g3, ite01 _, fun q' hq' => ⟨evJ (tkS (bAt by_ z q.1)) v w, fun st => ?_, rfl⟩⟩
          cases hq'
          show ev F ((q.2 ++ r.2) ++ [tkS (bAt by_ z q.1)]) st = _
          rw [ev_app, ev_app, g2 st, g4 (v :: st)]
          show ev1 F (tkS (bAt by_ z q.1)) (w :: v :: st) = _
          unfold ev1
          have t1 : ¬ (0 : Int32) ≤ tkS (bAt by_ z q.1) := by
            rcases hs with e | e | e <;> rw [e] <;> decide +kernel
          have t2 : ¬ tkS (bAt by_ z q.1) = -3 := by
            rcases hs with e | e | e <;> rw [e] <;> decide +kernel
          rw [if_neg t1, if_neg t2]
    · refine ⟨.inr q, k1, ?_, ?_⟩
      · intro rd a C L h
        obtain ⟨C1, g1, g2⟩ := cl rd a C L h
        have hb := cAt_next h (oOk_w k1) g1
        rw [g2, peek_ok hb hz, bi_, if_neg (fun w => hs (Or.inl w)), if_neg (fun w => hs (Or.inr (Or.inl w))), if_neg (fun w => hs (Or.inr (Or.inr w)))]
        exact ⟨C1, rfl, g1⟩
      · intro F R hc h
        obtain ⟨v, R1, g1, g2, g3⟩ := k3 F R hc h
        have hR1 := rAt_of h hq2 g2
        unfold f_X12_readPart mI
        rw [g1, bi_, g2.2.2, if_pos rfl, g2.2.1, byte_ok hR1 hz, bi_, sg_n hs, bi_, if_pos rfl, p26]
        refine ⟨_, R1, rfl, g2, ite01 _, fun q' hq' => ⟨v, fun st => ?_, rfl⟩⟩
        cases hq'
        exact g3 st

/-! the reference's machine -/
abbrev RT (n : Nat) (w : Int32) (R : mm_M) : Option (Int32 × mm_M) := f_X12_readText_27 f_X12_readText_260 n w R
def rFin (X : Option (Int32 × mm_M)) (R : mm_M) (f : Nat) : Prop := ∃ R', X = some (0, R') ∧ R'.1 0 35 = nI f ∧ R'.1 0 36 = 1 ∧ kpT R R'
theorem rFin_t {X : Option (Int32 × mm_M)} {R R1 : mm_M} {f : Nat} (h : kpT R R1) (g : rFin X R1 f) : rFin X R f := by
  obtain ⟨R', g1, g2, g3, g4⟩ := g
  exact ⟨R', g1, g2, g3, kpT_t h g4⟩
theorem rt_bad {n : Nat} {w : Int32} {R : mm_M} (h : R.1 0 36 = 1) : RT (n + 1) w R = some (0, R) := by
  unfold RT f_X12_readText_27 f_X12_readText_260 f_X12_readText_288 mI
  rw [h, if_neg n10, if_neg n10, if_neg n10]
theorem rt_1 {n : Nat} {R : mm_M} (h : R.1 0 36 = 0) : RT (n + 1) 1 R = f_X12_readText_49 (fun w M => RT n w M) 1 R := by
  unfold RT
  conv => lhs; unfold f_X12_readText_27
  unfold mI
  rw [h, if_pos rfl, if_neg n10]
theorem rt_0 {by_ : Nat → Int32} {z p n : Nat} {R : mm_M} (h : rAt by_ z R p) (hz : z ≤ 80) (hp : p < z) : RT (n + 1) 0 R = f_X12_readText_109 (fun w M => RT n w M) 0 (bAt by_ z p) R := by
  unfold RT
  conv => lhs; unfold f_X12_readText_27 f_X12_readText_49
  unfold mI
  rw [h.2.2.1, if_pos rfl, if_pos rfl, h.1, h.2.1, if_neg (nI_ge hp (by omega)), byte_ok h hz, bi_, if_pos rfl]
theorem rt_e {by_ : Nat → Int32} {z n : Nat} {R : mm_M} (h : rAt by_ z R z) (hz : z ≤ 80) : RT (n + 1) 0 R = mm_bv (f_X12_settle 1 R) (fun M1 => if (mI M1 0 39) ≤ 0 then f_X12_readText_285 (0 : Int32) M1 else f_X12_readText_285 (1 : Int32) M1) := by
  unfold RT
  conv => lhs; unfold f_X12_readText_27 f_X12_readText_260
  unfold mI
  rw [h.2.2.1, if_pos rfl, if_pos rfl, h.1, h.2.1, if_pos (nI_le (by omega) (by omega)), if_pos rfl]
/-- the machine behind a part: either it ends with the fault at f, or it comes to settleNots -/
def RPart (by_ : Nat → Int32) (z : Nat) (F : Nat → Int32) (d p : Nat) (o : mm_o) : Prop := ∀ R sg he, corr F (R.1 25) → rS by_ z R p sg he d → match o with
  | .inl f => ∃ k, k + p ≤ 82 ∧ ∀ n, rFin (RT (n + k) 1 R) R f
  | .inr q => ∃ v b R' k j, (∀ st, ev F q.2 st = v :: st) ∧ (b = if 0 < v then 1 else 0) ∧ k + p ≤ q.1 ∧ j + p ≤ q.1 ∧ rS by_ z R' q.1 sg (b :: he) d ∧ kpT R R' ∧ ∀ n, RT (n + k) 1 R = mm_bv (f_X12_settleNots_L0 (mm_fu - j) R') (fun M => RT n 0 M)
def PartOk (by_ : Nat → Int32) (z d p : Nat) : Prop := ∃ o, oOk z p 1 o ∧ (∀ C L, cAt by_ z C p L → ∃ C', t_part (8 - d) (nI d) C = some C' ∧ cOut C C' L o) ∧ ∀ F, RPart by_ z F d p o
theorem t_part_s {d : Nat} (hd : d ≤ 6) (a : Int32) (C : mm_M) : t_part (8 - d) a C = f_X8_readPart (f_X8_readDeeper (t_part (7 - d)) (f_X8_readChoice (f_X8_readTerm (t_part (7 - d))))) a C := by
  rw [show 8 - d = (7 - d) + 1 by omega]
  rfl
/-- settleNots behind a fault -/
theorem nots_any {e : Nat} (he : e ≤ 90) : ∀ (sg : List Int32) (n : Nat) (R : mm_M), sg.length < n → sg.length ≤ 90 → R.1 0 39 = nI sg.length → stk (R.1 26) sg → R.1 0 41 = nI (e + 1) → ∃ R', f_X12_settleNots_L0 n R = some R' ∧ R'.1 0 35 = R.1 0 35 ∧ R'.1 0 36 = R.1 0 36 ∧ kpT R R' := by
  intro sg
  induction sg with
  | nil =>
    intro n R hn h9 h1 h2 h3
    obtain ⟨n, rfl⟩ : ∃ q, n = q + 1 := ⟨n - 1, by omega⟩
    unfold f_X12_settleNots_L0 f_X12_topSign mI
    rw [h1, if_pos (show nI ([] : List Int32).length = 0 from rfl), bi_, if_neg (by decide +kernel)]
    exact ⟨R, rfl, rfl, rfl, kpT_r R⟩
  | cons x l ih =>
    intro n R hn h9 h1 h2 h3
    obtain ⟨n, rfl⟩ : ∃ q, n = q + 1 := ⟨n - 1, by omega⟩
    have hn' : l.length + 1 < n + 1 := hn
    have h9' : l.length + 1 ≤ 90 := h9
    have h1' : R.1 0 39 = nI (l.length + 1) := h1
    have e39 : R.1 0 39 - 1 = nI l.length := by rw [h1]; exact nI_pred l.length
    have e41 : R.1 0 41 - 1 = nI e := by rw [h3]; exact nI_pred e
    have key : ∀ y, ∃ R', f_X12_settleNots_38 (f_X12_settleNots_L0 n) (nI e) y R = some R' ∧ R'.1 0 35 = R.1 0 35 ∧ R'.1 0 36 = R.1 0 36 ∧ kpT R R' := by
      intro y
      unfold f_X12_settleNots_38
      rw [ckI (by omega) (by omega), let_, let_, let_, clI (by omega)]
      unfold mI
      simp only [s1, s2, l1, l2, upd_at, Nat.reduceEqDiff, reduceIte, e39]
      obtain ⟨R', g1, g2, g3, g4⟩ := ih n (sI (sI (sI R 27 e (y &&& 1)) 0 39 (nI l.length)) 0 42 (R.1 0 42 - 1)) (by omega) (by omega) (by simp only [s1, s2, l1, l2, upd_at, Nat.reduceEqDiff, reduceIte]) (by simp only [s1, s2, l1, l2, upd_at, Nat.reduceEqDiff, reduceIte]; exact h2.2) (by simp only [s1, s2, l1, l2, upd_at, Nat.reduceEqDiff, reduceIte]; exact h3)
      refine ⟨R', g1, ?_, ?_, kpT_t (kpT_t (kpT_27 _ _ _) (kpT_t (kpT_0 _ 39 _ (by omega)) (kpT_0 _ 42 _ (by omega)))) g4⟩
      · rw [g2]
        simp only [s1, s2, l1, l2, upd_at, Nat.reduceEqDiff, reduceIte]
      · rw [g3]
        simp only [s1, s2, l1, l2, upd_at, Nat.reduceEqDiff, reduceIte]
    conv => enter [1, R', 1, 1]; unfold f_X12_settleNots_L0 f_X12_topSign
    unfold mI
    rw [h1', if_neg (nI_ne0 (by omega) (by omega)), ← h1', e39, ckI (by omega) (by omega), bi_, clI (by omega), h2.1]
    by_cases y : x = 33
    · rw [if_pos y, e41, ckI (by omega) (by omega)]
      split
      · exact key 1
      · exact key 0
    · rw [if_neg y]
      exact ⟨R, rfl, rfl, rfl, kpT_r R⟩
/-- a part that is no '!' and no '(' -/
theorem part_ok_e {by_ : Nat → Int32} {z d p : Nat} (hz : z ≤ 80) (hp : p ≤ z) (hd : d ≤ 6) (n33 : ¬ bAt by_ z p = 33) (n40 : ¬ bAt by_ z p = 40) : PartOk by_ z d p := by
  obtain ⟨o, k1, k2, k3⟩ := part_e (by_ := by_) hz hp n33 n40
  refine ⟨o, k1, ?_, ?_⟩
  · intro C L h
    rw [t_part_s hd]
    exact k2 _ _ C L h
  · intro F R sg he hc h
    have h' := h
    obtain ⟨h1, h2, h3, h4, h5, h6, h7, h8, h9, h10⟩ := h'
    obtain ⟨b, R1, g1, g2, g3, g4⟩ := k3 F R hc h1
    have hb := bw1 g3
    have step : ∀ n, RT (n + 1) 1 R = mm_bv (f_X12_settleNots (sI (sI R1 27 he.length b) 0 41 (nI (he.length + 1)))) (fun M => RT n 0 M) := by
      intro n
      have e41 : R1.1 0 41 = nI he.length := by
        have e : R1.1 0 41 = R.1 0 41 := by
          cases o with
          | inl f => exact g2.1.2 41 (by omega) (by omega)
          | inr q => exact g2.1.2 41 (by omega) (by omega)
        rw [e]
        exact h4
      rw [rt_1 h1.2.2.1]
      unfold f_X12_readText_49 f_X12_readText_109 f_X12_readText_257 mI
      rw [h1.2.1, byte_ok h1 hz, bi_, if_neg n10, if_neg n33, if_neg n40, if_neg n10, g1, bi_, h4, ckI (by omega) (by omega), let_, let_, clI (by omega), hb]
      simp only [s1, s2, l1, l2, upd_at, Nat.reduceEqDiff, reduceIte, e41, add1]
    cases o with
    | inl f =>
      refine ⟨2, by omega, fun n => ?_⟩
      have kk : kpT R (sI (sI R1 27 he.length b) 0 41 (nI (he.length + 1))) := kpT_t (kpT_f g2.1) (kpT_t (kpT_27 _ _ _) (kpT_0 _ 41 _ (by omega)))
      have h36 : (sI (sI R1 27 he.length b) 0 41 (nI (he.length + 1))).1 0 36 = 1 := by
        simp only [s1, s2, l1, l2, upd_at, Nat.reduceEqDiff, reduceIte]
        exact g2.2.2
      have h35 : (sI (sI R1 27 he.length b) 0 41 (nI (he.length + 1))).1 0 35 = nI f := by
        simp only [s1, s2, l1, l2, upd_at, Nat.reduceEqDiff, reduceIte]
        exact g2.2.1
      rw [show n + 2 = (n + 1) + 1 by omega, step]
      obtain ⟨R2, e1, e2, e3, e4⟩ := nots_any (e := he.length) (by omega) sg mm_fu (sI (sI R1 27 he.length b) 0 41 (nI (he.length + 1))) (fuGt (by omega)) (by omega) (by simp only [s1, s2, l1, l2, upd_at, Nat.reduceEqDiff, reduceIte]; rw [g2.1.2 39 (by omega) (by omega)]; exact h2) (by simp only [s1, s2, l1, l2, upd_at, Nat.reduceEqDiff, reduceIte]; rw [g2.1.1 26 (by omega)]; exact h3) (by simp only [s1, s2, l1, l2, upd_at, Nat.reduceEqDiff, reduceIte])
      unfold f_X12_settleNots
      rw [e1, bv_, rt_bad (by rw [e3]; exact h36)]
      exact ⟨R2, rfl, by rw [e2]; exact h35, by rw [e3]; exact h36, kpT_t kk e4⟩
    | inr q =>
      obtain ⟨v, v1, v2⟩ := g4 q rfl
      have hq1 : p + 1 ≤ q.1 := k1.1
      refine ⟨v, b, _, 1, 0, v1, v2, by omega, by omega, ⟨⟨?_, ?_, ?_, fun k hk => ?_, k1.2.1⟩, ?_, ?_, ?_, ?_, ?_, by omega, ?_, h9, ?_⟩, kpT_t (kpT_f g2.1) (kpT_t (kpT_27 _ _ _) (kpT_0 _ 41 _ (by omega))), step⟩
      · simp only [s1, s2, l1, l2, upd_at, Nat.reduceEqDiff, reduceIte]
        rw [g2.1.2 34 (by omega) (by omega)]
        exact h1.1
      · simp only [s1, s2, l1, l2, upd_at, Nat.reduceEqDiff, reduceIte]
        exact g2.2.1
      · simp only [s1, s2, l1, l2, upd_at, Nat.reduceEqDiff, reduceIte]
        exact g2.2.2
      · simp only [s1, s2, l1, l2, upd_at, Nat.reduceEqDiff, reduceIte]
        rw [g2.1.1 24 (by omega)]
        exact h1.2.2.2.1 k hk
      · simp only [s1, s2, l1, l2, upd_at, Nat.reduceEqDiff, reduceIte]
        rw [g2.1.2 39 (by omega) (by omega)]
        exact h2
      · simp only [s1, s2, l1, l2, upd_at, Nat.reduceEqDiff, reduceIte]
        rw [g2.1.1 26 (by omega)]
        exact h3
      · simp only [s1, s2, l1, l2, upd_at, Nat.reduceEqDiff, reduceIte]
        rfl
      · simp only [s1, s2, l1, l2, upd_at, Nat.reduceEqDiff, reduceIte]
        rw [g2.1.1 27 (by omega)]
        exact stk_push b h5
      · simp only [s1, s2, l1, l2, upd_at, Nat.reduceEqDiff, reduceIte]
        rw [g2.1.2 42 (by omega) (by omega)]
        exact h6
      · show he.length + 1 ≤ q.1
        omega
      · intro x hx
        rcases List.mem_cons.mp hx with y | y
        · rw [y]
          exact g3
        · exact h10 x y

/-! units, sums -/
def rFr (R R' : mm_M) : Prop := (∀ a, a ≠ 0 → R'.1 a = R.1 a) ∧ ∀ j, j ≠ 35 → j ≠ 36 → R'.1 0 j = R.1 0 j
def rOut (R R' : mm_M) : mm_o → Prop
  | .inl f => rFr R R' ∧ R'.1 0 35 = nI f ∧ R'.1 0 36 = 1
  | .inr q => rFr R R' ∧ R'.1 0 35 = nI q.1 ∧ R'.1 0 36 = 0
theorem rFr_r (R : mm_M) : rFr R R := ⟨fun _ _ => rfl, fun _ _ _ => rfl⟩
theorem rFr_t {A B C : mm_M} (h : rFr A B) (g : rFr B C) : rFr A C := ⟨fun a h1 => (g.1 a h1).trans (h.1 a h1), fun j h1 h2 => (g.2 j h1 h2).trans (h.2 j h1 h2)⟩
theorem rFr_35 (R : mm_M) (x : Int32) : rFr R (sI R 0 35 x) := ⟨fun a a1 => by simp only [s1, s2, l1, l2, upd_at, Nat.reduceEqDiff, reduceIte, a1], fun j j1 j2 => by simp only [s1, s2, l1, l2, upd_at, Nat.reduceEqDiff, reduceIte, j1]⟩
theorem rFr_36 (R : mm_M) (x : Int32) : rFr R (sI R 0 36 x) := ⟨fun a a1 => by simp only [s1, s2, l1, l2, upd_at, Nat.reduceEqDiff, reduceIte, a1], fun j j1 j2 => by simp only [s1, s2, l1, l2, upd_at, Nat.reduceEqDiff, reduceIte, j2]⟩
theorem rAt_of {by_ : Nat → Int32} {z p : Nat} {R R' : mm_M} {q : Nat × List Int32} (h : rAt by_ z R p) (hq : q.1 ≤ z) (g : rOut R R' (.inr q)) : rAt by_ z R' q.1 := by
  obtain ⟨h1, h2, h3, h4, h5⟩ := h
  obtain ⟨g1, g2, g3⟩ := g
  exact ⟨by rw [g1.2 34 (by omega) (by omega)]; exact h1, g2, g3, fun k hk => by rw [g1.1 24 (by omega)]; exact h4 k hk, hq⟩
theorem rOut_t {R R1 R2 : mm_M} {o : mm_o} (h : rFr R R1) (g : rOut R1 R2 o) : rOut R R2 o := by
  cases o with
  | inl f => exact ⟨rFr_t h g.1, g.2⟩
  | inr q => exact ⟨rFr_t h g.1, g.2⟩
def evV (F : Nat → Int32) (v : Int32) : mm_o → Prop
  | .inl _ => True
  | .inr q => ∀ st, ev F q.2 st = v :: st
theorem ev_app (F : Nat → Int32) : ∀ (a b st : List Int32), ev F (a ++ b) st = ev F b (ev F a st) := by
  intro a
  induction a with
  | nil => exact fun _ _ => rfl
  | cons t a ih => exact fun b st => ih b (ev1 F t st)
def UnitOk (by_ : Nat → Int32) (z p : Nat) : Prop := ∃ o, oOk z p 1 o ∧ (∀ C L, cAt by_ z C p L → ∃ C', f_X8_readUnit C = some C' ∧ cOut C C' L o) ∧ ∀ F R, corr F (R.1 25) → rAt by_ z R p → ∃ v R', f_X12_readUnit R = some (v, R') ∧ rOut R R' o ∧ evV F v o
theorem m1lt : ((-1 : Int32) < 0) := by decide +kernel
theorem isF_lt {by_ : Nat → Int32} {z p : Nat} (h : isF (bAt by_ z p)) : p < z := bAt_lt (fun q => by rw [q] at h; revert h; unfold isF; decide +kernel)
theorem tok_num (F : Nat → Int32) {w : Nat} (h : w < 10000) : evU F (nI w) = nI w ∧ 0 ≤ nI w := by
  refine ⟨?_, nI_pos' (by omega)⟩
  unfold evU
  rw [if_neg]
  intro q
  have h1 := q.1
  rw [show (10000 : Int32) = nI 10000 from rfl] at h1
  have h2 := pk_sneg (a := w) (b := 10000) (by omega) h
  rw [Int32.le_iff_toInt_le] at h1
  rw [Int32.lt_iff_toInt_lt] at h2
  omega
theorem unit_ok {by_ : Nat → Int32} {z p : Nat} (hz : z ≤ 80) (hp : p ≤ z) : UnitOk by_ z p := by
  by_cases hf : isF (bAt by_ z p)
  · have hlt := isF_lt hf
    obtain ⟨k, hk, k1, k2⟩ := fO_y hf
    refine ⟨.inr (p + 1, [10000 + bAt by_ z p - 97]), ⟨Nat.le_refl _, hlt, by show 1 + p ≤ p + 1; omega⟩, ?_, ?_⟩
    · intro C L h
      unfold f_X8_readUnit
      rw [peek_ok h hz, bi_, isF_y C hf, bi_, if_neg n10]
      obtain ⟨C1, g1, g2⟩ := put_ok (10000 + bAt by_ z p - 97) h (by have := h.2.2.2.2.2.1; omega)
      have h1 : C1.1 9 4 = nI p := g2.2.1
      unfold mI
      rw [g1, bv_, let_, h1, add1]
      refine ⟨_, rfl, ?_⟩
      obtain ⟨a1, a2, a3, a4, a5, a6⟩ := g2
      refine ⟨cFr_t a1 ⟨fun a b1 b2 => by simp only [s1, s2, l1, l2, upd_at, Nat.reduceEqDiff, reduceIte, b1], by simp only [s1, s2, l1, l2, upd_at, Nat.reduceEqDiff, reduceIte]⟩, ?_, ?_, ?_, fun j hj => ?_, fun j hj => ?_⟩
      · simp only [s1, s2, l1, l2, upd_at, Nat.reduceEqDiff, reduceIte]
      · simp only [s1, s2, l1, l2, upd_at, Nat.reduceEqDiff, reduceIte]
        exact a3
      · simp only [s1, s2, l1, l2, upd_at, Nat.reduceEqDiff, reduceIte]
        exact a4
      · simp only [s1, s2, l1, l2, upd_at, Nat.reduceEqDiff, reduceIte]
        exact a5 j hj
      · simp only [s1, s2, l1, l2, upd_at, Nat.reduceEqDiff, reduceIte]
        exact a6 j hj
    · intro F R hc h
      unfold f_X12_readUnit mI
      rw [h.2.1, byte_ok h hz, bi_, k1, bi_, if_neg (nI_pos (by omega)), let_, k1, bi_, ckI hk (by omega), clI (by omega), h.2.1, add1]
      refine ⟨_, _, rfl, ⟨rFr_35 _ _, by simp only [s1, s2, l1, l2, upd_at, Nat.reduceEqDiff, reduceIte], by simp only [s1, s2, l1, l2, upd_at, Nat.reduceEqDiff, reduceIte]; exact h.2.2.1⟩, fun st => ?_⟩
      obtain ⟨q1, q2⟩ := k2 F (R.1 25) hc
      simp only [s1, s2, l1, l2, upd_at, Nat.reduceEqDiff, reduceIte]
      show ev1 F (10000 + bAt by_ z p - 97) st = _
      unfold ev1
      rw [if_pos q2, q1]
  · by_cases hd : isD (bAt by_ z p)
    · have hlt := isD_lt hd
      have kd := dig_ok by_ z 4 p 0 hp
      have kd1 : p + 1 ≤ (dig by_ z 4 p 0).1 := by
        unfold dig
        rw [if_pos (show 48 ≤ bAt by_ z p ∧ bAt by_ z p ≤ 57 from hd)]
        exact (dig_ok by_ z 3 (p + 1) _ (by omega)).1
      have kd4 : (dig by_ z 4 p 0).1 ≤ p + 4 := by
        have : ∀ m q w, (dig by_ z m q w).1 ≤ q + m := by
          intro m
          induction m with
          | zero => exact fun q w => Nat.le_refl _
          | succ m ih =>
            intro q w
            unfold dig
            split
            · have := ih (q + 1) (w * 10 + (nN (bAt by_ z q) - 48))
              omega
            · show q ≤ _
              omega
        exact this 4 p 0
      refine ⟨.inr ((dig by_ z 4 p 0).1, [nI (dig by_ z 4 p 0).2]), ⟨kd1, kd.2.1, by show 1 + p ≤ _; omega⟩, ?_, ?_⟩
      · intro C L h
        unfold f_X8_readUnit
        rw [peek_ok h hz, bi_, isF_n C hf, bi_, if_pos rfl, dC_y C hd, bi_, if_neg n10]
        have k := dig_c hz f_X8_readUnit_95 4 p 0 mm_fu L C (by omega) (fuGt (by omega)) h
        rw [show f_X8_readUnit_51 f_X8_readUnit_95 mm_fu 0 0 C = _ from k]
        have hL := h.2.2.2.2.2.1
        have hat : cAt by_ z (sI C 9 4 (nI (dig by_ z 4 p 0).1)) (dig by_ z 4 p 0).1 L := by
          obtain ⟨h1, h2, h3, h4, h5, h6, h7⟩ := h
          refine ⟨?_, ?_, ?_, ?_, ?_, by omega, kd.2.1⟩
          · simp only [s1, s2, l1, l2, upd_at, Nat.reduceEqDiff, reduceIte]; exact h1
          · simp only [s1, s2, l1, l2, upd_at, Nat.reduceEqDiff, reduceIte]; exact h2
          · simp only [s1, s2, l1, l2, upd_at, Nat.reduceEqDiff, reduceIte]
          · simp only [s1, s2, l1, l2, upd_at, Nat.reduceEqDiff, reduceIte]; exact h4
          · simp only [s1, s2, l1, l2, upd_at, Nat.reduceEqDiff, reduceIte]; exact h5
        unfold f_X8_readUnit_95
        obtain ⟨C1, g1, g2⟩ := put_ok (nI (dig by_ z 4 p 0).2) hat (by omega)
        rw [g1, bv_]
        refine ⟨C1, rfl, ?_⟩
        obtain ⟨a1, a2, a3, a4, a5, a6⟩ := g2
        refine ⟨cFr_t ⟨fun a b1 b2 => by simp only [s1, s2, l1, l2, upd_at, Nat.reduceEqDiff, reduceIte, b1], by simp only [s1, s2, l1, l2, upd_at, Nat.reduceEqDiff, reduceIte]⟩ a1, a2, a3, a4, fun j hj => ?_, a6⟩
        rw [a5 j hj]
        simp only [s1, s2, l1, l2, upd_at, Nat.reduceEqDiff, reduceIte]
      · intro F R hc h
        unfold f_X12_readUnit mI
        rw [h.2.1, byte_ok h hz, bi_, fO_n R hf, bi_, if_pos m1lt]
        have k := dig_r hz f_X12_readUnit_92 4 p 0 mm_fu R (by omega) (fuGt (by omega)) h
        rw [show f_X12_readUnit_40 f_X12_readUnit_92 mm_fu 0 0 R = _ from k]
        unfold f_X12_readUnit_92 mI
        have e36 : (sI R 0 35 (nI (dig by_ z 4 p 0).1)).1 0 36 = 0 := by
          simp only [s1, s2, l1, l2, upd_at, Nat.reduceEqDiff, reduceIte]
          exact h.2.2.1
        rw [e36, if_pos rfl, if_neg (nI_ne0 (by omega) (by omega)), let_]
        refine ⟨_, _, rfl, ⟨rFr_t (rFr_35 _ _) (rFr_36 _ _), by simp only [s1, s2, l1, l2, upd_at, Nat.reduceEqDiff, reduceIte], by simp only [s1, s2, l1, l2, upd_at, Nat.reduceEqDiff, reduceIte]⟩, fun st => ?_⟩
        obtain ⟨q1, q2⟩ := tok_num F (w := (dig by_ z 4 p 0).2) (by have := kd.2.2; omega)
        show ev1 F _ st = _
        unfold ev1
        rw [if_pos q2, q1]
    · refine ⟨.inl p, ⟨Nat.le_refl _, hp⟩, ?_, ?_⟩
      · intro C L h
        unfold f_X8_readUnit
        rw [peek_ok h hz, bi_, isF_n C hf, bi_, if_pos rfl, dC_n C hd, bi_, if_pos rfl]
        obtain ⟨C1, g1, g2⟩ := fail_ok h hz
        rw [g1, bv_]
        exact ⟨C1, rfl, g2⟩
      · intro F R hc h
        unfold f_X12_readUnit mI
        rw [h.2.1, byte_ok h hz, bi_, fO_n R hf, bi_, if_pos m1lt]
        have k := dig_r hz f_X12_readUnit_92 4 p 0 mm_fu R (by omega) (fuGt (by omega)) h
        have e1 : dig by_ z 4 p 0 = (p, 0) := by
          unfold dig
          rw [if_neg (show ¬ (48 ≤ bAt by_ z p ∧ bAt by_ z p ≤ 57) from hd)]
        rw [e1] at k
        rw [show f_X12_readUnit_40 f_X12_readUnit_92 mm_fu 0 0 R = _ from k]
        unfold f_X12_readUnit_92 mI
        have e36 : (sI R 0 35 (nI p)).1 0 36 = 0 := by
          simp only [s1, s2, l1, l2, upd_at, Nat.reduceEqDiff, reduceIte]
          exact h.2.2.1
        rw [show (p, 0).1 = p from rfl, e36, if_pos rfl, Nat.sub_self 4, Nat.sub_self p, if_pos (show nI (0 + 0) = 0 from rfl), let_]
        exact ⟨_, _, rfl, ⟨rFr_t (rFr_35 _ _) (rFr_36 _ _), by simp only [s1, s2, l1, l2, upd_at, Nat.reduceEqDiff, reduceIte], by simp only [s1, s2, l1, l2, upd_at, Nat.reduceEqDiff, reduceIte]⟩, trivial⟩
/-- what both sides read behind the first unit -/
def SumL (by_ : Nat → Int32) (z p : Nat) : Prop := ∃ o, oOk z p 0 o ∧ (∀ C L i n, cAt by_ z C p L → i ≤ p → 80 < n + p → ∃ C', f_X8_readSum_6 n (nI i) C = some C' ∧ cOut C C' L o) ∧ ∀ F R v n, corr F (R.1 25) → rAt by_ z R p → 82 < n + p → ∃ v' R', f_X12_readSum_5 n v R = some (v', R') ∧ rOut R R' o ∧ (match o with | .inl _ => True | .inr q => ∀ st, ev F q.2 (v :: st) = v' :: st)

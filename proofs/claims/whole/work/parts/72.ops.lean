/-! a whole text -/
theorem corr_ex (g : Nat → Int32) : ∃ F, corr F g := ⟨fun i => if i = 0 then g 0 else if i = 1 then g 1 else if i = 2 then g 2 else if i = 3 then g 9 else if i = 6 then g 3 else if i = 7 then g 4 else if i = 10 then g 5 else if i = 12 then g 12 else if i = 13 then g 6 else if i = 14 then g 7 else if i = 15 then g 8 else if i = 18 then g 10 else g 11, rfl, rfl, rfl, rfl, rfl, rfl, rfl, rfl, rfl, rfl, rfl, rfl, rfl⟩
def TextOk (by_ : Nat → Int32) (z : Nat) (o : mm_o) : Prop := (∀ C, C.1 59 = by_ → C.1 9 2 = nI z → match o with
    | .inl f => ∃ C', t_translate C = some (nI f, C') ∧ cFr C C'
    | .inr q => ∃ C', t_translate C = some (-1, C') ∧ cFr C C' ∧ C'.1 9 3 = nI q.2.length ∧ ∀ i, i < q.2.length → C'.1 60 i = q.2.getD i 0) ∧
  ∀ F R, corr F (R.1 25) → R.1 0 34 = nI z → (∀ k, k < z → R.1 24 k = by_ k) → match o with
    | .inl f => rFin (f_X12_readText R) R f
    | .inr q => ∃ v R', f_X12_readText R = some (if 0 < v then 1 else 0, R') ∧ (∀ st, ev F q.2 st = v :: st) ∧ R'.1 0 36 = 0 ∧ kpT R R'
theorem text_ok (by_ : Nat → Int32) {z : Nat} (hz : z ≤ 80) : ∃ o, TextOk by_ z o ∧ match o with | .inl f => f ≤ 80 | .inr q => q.2.length ≤ 80 := by
  obtain ⟨o, k1, k0, k2, k3⟩ := cho_ok (by_ := by_) hz (part_all hz 6 0 rfl) (Nat.zero_le z)
  -- the class, up to the end of the choice
  have cl : ∀ C, C.1 59 = by_ → C.1 9 2 = nI z → ∃ C0 C1, cFr C C0 ∧ cAt by_ z C0 0 0 ∧ cOut C0 C1 0 o ∧ t_translate C = (if (mI C1 9 2) ≤ (mI C1 9 4) then some (mI C1 9 5, C1) else mm_bv (f_X8_fail C1) (fun M5 => some (mI M5 9 5, M5))) := by
    intro C h1 h2
    have ha : cAt by_ z (sI (sI (sI C 9 4 0) 9 5 (-1)) 9 3 0) 0 0 := by
      refine ⟨by simp only [s1, s2, l1, l2, upd_at, Nat.reduceEqDiff, reduceIte]; exact h1, by simp only [s1, s2, l1, l2, upd_at, Nat.reduceEqDiff, reduceIte]; exact h2, by simp only [s1, s2, l1, l2, upd_at, Nat.reduceEqDiff, reduceIte]; rfl, by simp only [s1, s2, l1, l2, upd_at, Nat.reduceEqDiff, reduceIte], by simp only [s1, s2, l1, l2, upd_at, Nat.reduceEqDiff, reduceIte]; rfl, by omega, by omega⟩
    obtain ⟨C1, g1, g2⟩ := k2 _ _ ha
    refine ⟨_, C1, ⟨fun a a1 a2 => by simp only [s1, s2, l1, l2, upd_at, Nat.reduceEqDiff, reduceIte, a1], by simp only [s1, s2, l1, l2, upd_at, Nat.reduceEqDiff, reduceIte]⟩, ha, g2, ?_⟩
    unfold t_translate f_X8_translate t_choice
    rw [let_, let_, let_, show (0 : Int32) = nI 0 from rfl]
    have g1' : f_X8_readChoice (f_X8_readTerm (t_part 8)) (nI 0) (sI (sI (sI C 9 4 (nI 0)) 9 5 (-1)) 9 3 (nI 0)) = some C1 := g1
    rw [g1', bv_]
  -- the reference
  have rf : ∀ R, R.1 0 34 = nI z → (∀ k, k < z → R.1 24 k = by_ k) → ∃ R0, kpT R R0 ∧ rS by_ z R0 0 [] [] 0 ∧ f_X12_readText R = RT mm_fu 1 R0 := by
    intro R h1 h2
    have hk : kpT R (sI (sI (sI (sI (sI R 0 35 0) 0 36 0) 0 39 0) 0 41 0) 0 42 0) := kpT_t (kpT_0 _ 35 _ (by omega)) (kpT_t (kpT_0 _ 36 _ (by omega)) (kpT_t (kpT_0 _ 39 _ (by omega)) (kpT_t (kpT_0 _ 41 _ (by omega)) (kpT_0 _ 42 _ (by omega)))))
    refine ⟨_, hk, ⟨⟨by rw [hk.2 34 (by omega) (by omega) (by omega) (by omega) (by omega)]; exact h1, by simp only [s1, s2, l1, l2, upd_at, Nat.reduceEqDiff, reduceIte]; rfl, by simp only [s1, s2, l1, l2, upd_at, Nat.reduceEqDiff, reduceIte], fun k hk2 => by rw [hk.1 24 (by omega) (by omega) (by omega)]; exact h2 k hk2, by omega⟩, by simp only [s1, s2, l1, l2, upd_at, Nat.reduceEqDiff, reduceIte]; rfl, trivial, by simp only [s1, s2, l1, l2, upd_at, Nat.reduceEqDiff, reduceIte]; rfl, trivial, by simp only [s1, s2, l1, l2, upd_at, Nat.reduceEqDiff, reduceIte]; rfl, by show 0 ≤ 0; omega, by show 0 ≤ 0; omega, by omega, fun x hx => by cases hx⟩, ?_⟩
    unfold f_X12_readText
    rw [let_, let_, let_, let_, let_]
  have t33 : ¬ top_ [] = 33 := by decide +kernel
  have t38 : ¬ top_ [] = 38 := by decide +kernel
  have t124 : ¬ top_ [] = 124 := by decide +kernel
  have hfu : mm_fu = 100000 := rfl
  cases o with
  | inl f =>
    have kf := k1.2
    refine ⟨.inl f, ⟨?_, ?_⟩, by show f ≤ 80; omega⟩
    · intro C h1 h2
      obtain ⟨C0, C1, g1, g2, g3, g4⟩ := cl C h1 h2
      rw [fail_bad g3.2 (by omega), bv_] at g4
      unfold mI at g4
      rw [g3.2.1] at g4
      refine ⟨C1, ?_, cFr_t g1 g3.1⟩
      rw [g4]
      split <;> rfl
    · intro F R hc h1 h2
      obtain ⟨R0, g1, g2, g3⟩ := rf R h1 h2
      obtain ⟨k, e1, e2⟩ := k3 F R0 [] [] (corr_k hc g1) g2 t33 t38 t124
      have := e2 (mm_fu - k)
      rw [show mm_fu - k + k = mm_fu by omega] at this
      show rFin (f_X12_readText R) R f
      rw [g3]
      exact rFin_t g1 this
  | inr q =>
    obtain ⟨kq1, kq2, kq3⟩ := k1
    obtain ⟨n38, n124⟩ := k0 q rfl
    by_cases hq : q.1 < z
    · refine ⟨.inl q.1, ⟨?_, ?_⟩, by show q.1 ≤ 80; omega⟩
      · intro C h1 h2
        obtain ⟨C0, C1, g1, g2, g3, g4⟩ := cl C h1 h2
        have hb := cAt_next (q := q) g2 ⟨by omega, kq2, kq3⟩ g3
        obtain ⟨C2, e1, e2⟩ := fail_ok hb hz
        unfold mI at g4
        rw [hb.2.1, hb.2.2.1, if_neg (nI_ge hq (by omega)), e1, bv_, e2.2.1] at g4
        exact ⟨C2, g4, cFr_t g1 (cFr_t g3.1 e2.1)⟩
      · intro F R hc h1 h2
        obtain ⟨R0, g1, g2, g3⟩ := rf R h1 h2
        obtain ⟨v, b, R1, kk, e1, e2, e3, e5, e6, e7⟩ := k3 F R0 [] [] (corr_k hc g1) g2 t33 t38 t124
        show rFin (f_X12_readText R) R q.1
        have e8 := e7 (mm_fu - kk - 2 + 1 + 1)
        rw [show mm_fu - kk - 2 + 1 + 1 + kk = mm_fu by omega] at e8
        rw [g3, e8]
        refine rFin_t (kpT_t g1 e6) ?_
        rw [rt_0 (cPend_at e5) hz hq]
        unfold f_X12_readText_109 f_X12_readText_257
        by_cases h41 : bAt by_ z q.1 = 41
        · obtain ⟨R4, w1, w2, w3⟩ := set_1 e5 hz t38 t124
          rw [h41, if_pos rfl, if_neg (by decide +kernel), if_neg (by decide +kernel), if_pos rfl, w1, bv_, top_ok w2 hz, bi_, if_neg (by decide +kernel), let_]
          show rFin (RT (mm_fu - kk - 2 + 1) 0 (sI R4 0 36 1)) R1 q.1
          rw [rt_bad (by simp only [s1, s2, l1, l2, upd_at, Nat.reduceEqDiff, reduceIte])]
          exact ⟨_, rfl, by simp only [s1, s2, l1, l2, upd_at, Nat.reduceEqDiff, reduceIte]; exact w2.1.2.1, by simp only [s1, s2, l1, l2, upd_at, Nat.reduceEqDiff, reduceIte], kpT_t w3 (kpT_0 _ 36 _ (by omega))⟩
        · rw [if_pos rfl, if_neg n38, if_neg n124, if_neg h41, let_]
          show rFin (RT (mm_fu - kk - 2 + 1) 0 (sI R1 0 36 1)) R1 q.1
          rw [rt_bad (by simp only [s1, s2, l1, l2, upd_at, Nat.reduceEqDiff, reduceIte])]
          exact ⟨_, rfl, by simp only [s1, s2, l1, l2, upd_at, Nat.reduceEqDiff, reduceIte]; exact (cPend_at e5).2.1, by simp only [s1, s2, l1, l2, upd_at, Nat.reduceEqDiff, reduceIte], kpT_0 _ 36 _ (by omega)⟩
    · have hqz : q.1 = z := by omega
      refine ⟨.inr q, ⟨?_, ?_⟩, by show q.2.length ≤ 80; omega⟩
      · intro C h1 h2
        obtain ⟨C0, C1, g1, g2, g3, g4⟩ := cl C h1 h2
        have hb := cAt_next (q := q) g2 ⟨by omega, kq2, kq3⟩ g3
        unfold mI at g4
        rw [hb.2.1, hb.2.2.1, if_pos (nI_le (by omega) (by omega)), hb.2.2.2.1] at g4
        refine ⟨C1, g4, cFr_t g1 g3.1, ?_, fun i hi => ?_⟩
        · have := g3.2.2.2.1
          rw [Nat.zero_add] at this
          exact this
        · have := g3.2.2.2.2.2 i hi
          rw [Nat.zero_add] at this
          exact this
      · intro F R hc h1 h2
        obtain ⟨R0, g1, g2, g3⟩ := rf R h1 h2
        obtain ⟨v, b, R1, kk, e1, e2, e3, e5, e6, e7⟩ := k3 F R0 [] [] (corr_k hc g1) g2 t33 t38 t124
        have e8 := e7 (mm_fu - kk - 1 + 1)
        rw [show mm_fu - kk - 1 + 1 + kk = mm_fu by omega] at e8
        have hat := cPend_at e5
        rw [hqz] at hat
        obtain ⟨R4, w1, w2, w3⟩ := set_1 e5 hz t38 t124
        have e39 : R4.1 0 39 = nI 0 := w2.2.1
        have e27 : R4.1 27 0 = b := w2.2.2.2.2.1.1
        refine ⟨v, sI R4 0 36 0, ?_, e1, by simp only [s1, s2, l1, l2, upd_at, Nat.reduceEqDiff, reduceIte], kpT_t g1 (kpT_t e6 (kpT_t w3 (kpT_0 _ 36 _ (by omega))))⟩
        rw [g3, e8, rt_e hat hz, w1, bv_]
        unfold f_X12_readText_285 f_X12_readText_288 mI
        rw [e39, if_pos (show nI 0 ≤ 0 by decide +kernel), bz0, let_]
        simp only [s1, s2, l1, l2, upd_at, Nat.reduceEqDiff, reduceIte]
        rw [show mm_ck (0 : Int32) 100 (if R4.1 27 (0 : Int32).toNatClampNeg = 0 then some ((0 : Int32), sI R4 0 36 0) else some (1, sI R4 0 36 0)) = (if R4.1 27 0 = 0 then some ((0 : Int32), sI R4 0 36 0) else some (1, sI R4 0 36 0)) from rfl, e27, e2]
        by_cases y : 0 < v
        · rw [if_pos y, if_neg n10]
        · rw [if_neg y, if_pos rfl]
theorem refEv_of {by_ : Nat → Int32} {z : Nat} {q : Nat × List Int32} (h : TextOk by_ z (.inr q)) : RefEv z by_ q.2 := by
  intro F R hc h1 h2
  obtain ⟨v, R', g1, g2, g3, g4⟩ := h.2 F R hc h1 h2
  exact ⟨v, R', g1, g2, g4⟩
theorem refEv_eq {x y : Nat → Int32} {z : Nat} {cd : List Int32} (h : RefEv z x cd) (e : ∀ k, k < z → y k = x k) : RefEv z y cd := fun F R hc h1 h2 => h F R hc h1 (fun k hk => by rw [h2 k hk, e k hk])

/-! the stops, on both sides -/
def stW (f g : Nat → Int32) : Nat → Nat × (Nat → Nat)
  | 0 => (0, fun _ => 0)
  | k + 1 => if f k = 0 then stW f g k else if g k = 0 then stW f g k else if (stW f g k).1 < 8 then ((stW f g k).1 + 1, fun a => if a = (stW f g k).1 then k else (stW f g k).2 a) else stW f g k
theorem stW_s (f g : Nat → Int32) (k : Nat) : stW f g (k + 1) = if f k = 0 then stW f g k else if g k = 0 then stW f g k else if (stW f g k).1 < 8 then ((stW f g k).1 + 1, fun a => if a = (stW f g k).1 then k else (stW f g k).2 a) else stW f g k := rfl
theorem stW_le (f g : Nat → Int32) : ∀ k, (stW f g k).1 ≤ 8 ∧ ∀ a, a < (stW f g k).1 → (stW f g k).2 a < k := by
  intro k
  induction k with
  | zero => exact ⟨Nat.zero_le _, fun a ha => absurd ha (Nat.not_lt_zero a)⟩
  | succ k ih =>
    have same : (stW f g k).1 ≤ 8 ∧ ∀ a, a < (stW f g k).1 → (stW f g k).2 a < k + 1 := ⟨ih.1, fun a ha => Nat.lt_succ_of_lt (ih.2 a ha)⟩
    rw [stW_s]
    split
    · exact same
    · split
      · exact same
      · split
        · rename_i h8
          refine ⟨h8, fun a ha => ?_⟩
          show (if a = (stW f g k).1 then k else (stW f g k).2 a) < k + 1
          have ha' : a < (stW f g k).1 + 1 := ha
          by_cases e : a = (stW f g k).1
          · rw [if_pos e]
            omega
          · rw [if_neg e]
            have := ih.2 a (by omega)
            omega
        · exact same
theorem stW_full {f g : Nat → Int32} {k : Nat} (h : (stW f g k).1 = 8) : ∀ m, stW f g (k + m) = stW f g k := by
  intro m
  induction m with
  | zero => rfl
  | succ m ih =>
    rw [← Nat.add_assoc, stW_s, ih, h, if_neg (show ¬ 8 < 8 by omega)]
    split
    · rfl
    · split <;> rfl
theorem addS_c {X : mm_M} {w s : Nat} {x y u v : Int32} (h : X.1 10 7 = nI w) (hw : w < 8) (hu : u = 0 ∨ u = 1) (hv : v = 0 ∨ v = 1) : f_X4_addStop (nI s) x y u v X = some (sI (sI (sI (sI (sI (sI X 61 w (nI s)) 62 w x) 63 w y) 66 w u) 67 w v) 10 7 (nI (w + 1))) := by
  unfold f_X4_addStop
  rw [show mI X 10 7 = nI w from h, if_pos (show nI w < 8 from (nI_ltI (b := 8) (by omega) (by omega)).mpr hw)]
  simp (disch := omega) only [mI, let_, ckI, clI, s1, s2, l1, l2, upd_at, Nat.reduceEqDiff, reduceIte, h, add1, bw1 hu, bw1 hv]
def pI (C : mm_M) (a b t : Nat) (X : mm_M) (k : Nat) : Prop := (∀ o, o ≠ 10 → o ≠ 61 → o ≠ 62 → o ≠ 63 → o ≠ 66 → o ≠ 67 → X.1 o = C.1 o) ∧ X.1 10 7 = nI (stW (C.1 51) (C.1 31) k).1 ∧ X.1 62 8 = C.1 62 8 ∧ X.1 63 8 = C.1 63 8 ∧ ∀ i, i < (stW (C.1 51) (C.1 31) k).1 → X.1 61 i = nI ((stW (C.1 51) (C.1 31) k).2 i) ∧ X.1 62 i = C.1 28 ((stW (C.1 51) (C.1 31) k).2 i) ∧ X.1 63 i = C.1 29 ((stW (C.1 51) (C.1 31) k).2 i) ∧ (X.1 66 i = 0 ↔ ¬ mgP (C.1 38) (C.1 39) (C.1 40) (C.1 45) t a ((stW (C.1 51) (C.1 31) k).2 i)) ∧ (X.1 67 i = 0 ↔ ¬ mgP (C.1 38) (C.1 39) (C.1 40) (C.1 45) t b ((stW (C.1 51) (C.1 31) k).2 i))
theorem pw9 {C : mm_M} {n t a b : Nat} (hn : C.1 2 8 = nI n) (hn4 : n ≤ 40) (ht : C.1 4 7 = nI t) (h100 : t ≤ 100) (ha : a < 8) (hb : b < 8) (h0 : C.1 10 7 = 0) (K : mm_M → Option mm_M) : ∃ C', f_X11_planWork_9 K mm_fu (nI a) (nI b) 0 C = K C' ∧ pI C a b t C' n := by
  refine lpMf (fun m k X => f_X11_planWork_9 K m (nI a) (nI b) (nI k) X) (fun k X => pI C a b t X k) (fun r => ∃ C', r = K C' ∧ pI C a b t C' n) (c := n) C (by omega) ⟨fun _ _ _ _ _ _ _ => rfl, h0, rfl, rfl, fun i hi => absurd hi (Nat.not_lt_zero i)⟩ ?_ ?_
  · intro k m X hk hI ih
    obtain ⟨i1, i2, i3, i4, i5⟩ := hI
    replace ih : ∀ X', pI C a b t X' (k + 1) → ∃ C', f_X11_planWork_9 K m (nI a) (nI b) (nI (k + 1)) X' = K C' ∧ pI C a b t C' n := ih
    have hle := (stW_le (C.1 51) (C.1 31) k).1
    have hs := stW_s (C.1 51) (C.1 31) k
    show ∃ C', f_X11_planWork_9 K (m + 1) (nI a) (nI b) (nI k) X = K C' ∧ _
    have e4 : X.1 4 7 = nI t := by rw [i1 4 (by omega) (by omega) (by omega) (by omega) (by omega) (by omega)]; exact ht
    obtain ⟨u, u1, u2, u3⟩ := mayGo_c (X := X) (t := t) (k := a) (s := k) e4 h100 ha (by omega)
    obtain ⟨v, v1, v2, v3⟩ := mayGo_c (X := X) (t := t) (k := b) (s := k) e4 h100 hb (by omega)
    rw [i1 38 (by omega) (by omega) (by omega) (by omega) (by omega) (by omega), i1 39 (by omega) (by omega) (by omega) (by omega) (by omega) (by omega), i1 40 (by omega) (by omega) (by omega) (by omega) (by omega) (by omega), i1 45 (by omega) (by omega) (by omega) (by omega) (by omega) (by omega)] at u3 v3
    unfold f_X11_planWork_9 f_X11_planWork_82
    rw [show mI X 2 8 = nI n by unfold mI; rw [i1 2 (by omega) (by omega) (by omega) (by omega) (by omega) (by omega)]; exact hn, if_neg (nI_ge hk (by omega)), ckI (by omega) (by omega), ckI (by omega) (by omega), ckI (by omega) (by omega), ckI (by omega) (by omega), clI (by omega), add1]
    unfold mI
    rw [i1 51 (by omega) (by omega) (by omega) (by omega) (by omega) (by omega), i1 31 (by omega) (by omega) (by omega) (by omega) (by omega) (by omega), i1 28 (by omega) (by omega) (by omega) (by omega) (by omega) (by omega), i1 29 (by omega) (by omega) (by omega) (by omega) (by omega) (by omega), u1, bi_, v1, bi_]
    have stay : stW (C.1 51) (C.1 31) (k + 1) = stW (C.1 51) (C.1 31) k → ∃ C', f_X11_planWork_9 K m (nI a) (nI b) (nI (k + 1)) X = K C' ∧ pI C a b t C' n := by
      intro e
      refine ih X ?_
      unfold pI
      rw [e]
      exact ⟨i1, i2, i3, i4, i5⟩
    by_cases c1 : C.1 51 k = 0
    · rw [if_pos c1] at hs ⊢
      exact stay hs
    · rw [if_neg c1] at hs ⊢
      by_cases c2 : C.1 31 k = 0
      · rw [if_pos c2] at hs ⊢
        exact stay hs
      · rw [if_neg c2] at hs ⊢
        by_cases c3 : (stW (C.1 51) (C.1 31) k).1 < 8
        · rw [if_pos c3] at hs
          rw [addS_c i2 c3 u2 v2, bv_]
          refine ih _ ?_
          unfold pI
          rw [hs]
          generalize stW (C.1 51) (C.1 31) k = st at *
          refine ⟨fun o o1 o2 o3 o4 o5 o6 => ?_, ?_, ?_, ?_, fun i hi => ?_⟩
          · simp only [s1, s2, l1, l2, upd_at, Nat.reduceEqDiff, reduceIte, o1, o2, o3, o4, o5, o6]
            exact i1 o o1 o2 o3 o4 o5 o6
          · simp only [s1, s2, l1, l2, upd_at, Nat.reduceEqDiff, reduceIte]
          · have : ¬ (8 = st.1) := by omega
            simp only [s1, s2, l1, l2, upd_at, Nat.reduceEqDiff, reduceIte, this]
            exact i3
          · have : ¬ (8 = st.1) := by omega
            simp only [s1, s2, l1, l2, upd_at, Nat.reduceEqDiff, reduceIte, this]
            exact i4
          · by_cases e : i = st.1
            · subst e
              simp only [s1, s2, l1, l2, upd_at, Nat.reduceEqDiff, reduceIte]
              exact ⟨trivial, trivial, trivial, u3, v3⟩
            · simp only [s1, s2, l1, l2, upd_at, Nat.reduceEqDiff, reduceIte, e]
              exact i5 i (by have : i < st.1 + 1 := hi; omega)
        · rw [if_neg c3] at hs
          have : f_X4_addStop (nI k) (C.1 28 k) (C.1 29 k) u v X = some X := by
            unfold f_X4_addStop
            rw [show mI X 10 7 = _ from i2, if_neg (show ¬ nI (stW (C.1 51) (C.1 31) k).1 < 8 from nI_nlt (b := 8) (by omega) (by omega))]
          rw [this, bv_]
          exact stay hs
  · intro m X hI
    have hI' : pI C a b t X n := hI
    show ∃ C', f_X11_planWork_9 K (m + 1) (nI a) (nI b) (nI n) X = K C' ∧ _
    unfold f_X11_planWork_9 mI
    rw [hI'.1 2 (by omega) (by omega) (by omega) (by omega) (by omega) (by omega), hn, if_pos (nI_le (by omega) (by omega))]
    exact ⟨X, rfl, hI'⟩
def qI (R X : mm_M) (k : Nat) : Prop := (∀ o, o ≠ 0 → o ≠ 44 → X.1 o = R.1 o) ∧ (∀ j, j ≠ 62 → X.1 0 j = R.1 0 j) ∧ X.1 0 62 = nI (stW (R.1 15) (R.1 6) k).1 ∧ ∀ i, i < (stW (R.1 15) (R.1 6) k).1 → X.1 44 i = nI ((stW (R.1 15) (R.1 6) k).2 i)
theorem fw7 {R : mm_M} {n : Nat} (hn : R.1 0 2 = nI n) (hn4 : n ≤ 40) (h0 : R.1 0 62 = 0) (x1 x2 : Int32) (K : Int32 → Int32 → mm_M → Option mm_M) : ∃ R', f_X12_findWork_7 K mm_fu x1 x2 0 R = K x1 x2 R' ∧ qI R R' n := by
  refine lpMf (fun m k X => f_X12_findWork_7 K m x1 x2 (nI k) X) (fun k X => qI R X k) (fun r => ∃ R', r = K x1 x2 R' ∧ qI R R' n) (c := n) R (by omega) ⟨fun _ _ _ => rfl, fun _ _ => rfl, h0, fun i hi => absurd hi (Nat.not_lt_zero i)⟩ ?_ ?_
  · intro k m X hk hI ih
    have hI' := hI
    obtain ⟨i1, i2, i3, i4⟩ := hI
    have hle := (stW_le (R.1 15) (R.1 6) k).1
    have hs := stW_s (R.1 15) (R.1 6) k
    show ∃ R', f_X12_findWork_7 K (m + 1) x1 x2 (nI k) X = K x1 x2 R' ∧ _
    unfold f_X12_findWork_7 f_X12_findWork_62
    rw [show mI X 0 2 = nI n from (i2 2 (by omega)).trans hn, if_neg (nI_ge hk (by omega)), show mI X 0 62 = _ from i3]
    by_cases c3 : (stW (R.1 15) (R.1 6) k).1 < 8
    · rw [if_neg (show ¬ (8 : Int32) ≤ nI (stW (R.1 15) (R.1 6) k).1 from nI_ge (b := 8) c3 (by omega)), ckI (by omega) (by omega), ckI (by omega) (by omega), ckI c3 (by omega), clI (by omega), clI (by omega), add1]
      unfold mI
      rw [i1 15 (by omega) (by omega), i1 6 (by omega) (by omega)]
      have stay : stW (R.1 15) (R.1 6) (k + 1) = stW (R.1 15) (R.1 6) k → ∃ R', f_X12_findWork_7 K m x1 x2 (nI (k + 1)) X = K x1 x2 R' ∧ qI R R' n := by
        intro e
        refine ih X ?_
        unfold qI
        rw [e]
        exact hI'
      by_cases c1 : R.1 15 k = 0
      · rw [if_pos c1] at hs ⊢
        exact stay hs
      · rw [if_neg c1] at hs ⊢
        by_cases c2 : R.1 6 k = 0
        · rw [if_pos c2] at hs ⊢
          exact stay hs
        · rw [if_neg c2, if_pos c3] at hs
          rw [if_neg c2, let_, let_]
          have hst : stW (R.1 15) (R.1 6) k = stW (R.1 15) (R.1 6) k := rfl
          generalize stW (R.1 15) (R.1 6) k = st at hs hst i3 i4 hle c3 ⊢
          refine ih _ ?_
          unfold qI
          rw [hs]
          refine ⟨fun o o1 o2 => ?_, fun j hj => ?_, ?_, fun i hi => ?_⟩
          · simp only [s1, s2, l1, l2, upd_at, Nat.reduceEqDiff, reduceIte, o1, o2]
            exact i1 o o1 o2
          · simp only [s1, s2, l1, l2, upd_at, Nat.reduceEqDiff, reduceIte, hj]
            exact i2 j hj
          · simp only [s1, s2, l1, l2, upd_at, Nat.reduceEqDiff, reduceIte, i3]
            exact add1 _
          · by_cases e : i = st.1
            · subst e
              simp only [s1, s2, l1, l2, upd_at, Nat.reduceEqDiff, reduceIte]
            · simp only [s1, s2, l1, l2, upd_at, Nat.reduceEqDiff, reduceIte, e]
              exact i4 i (by have : i < st.1 + 1 := hi; omega)
    · rw [if_pos (show (8 : Int32) ≤ nI (stW (R.1 15) (R.1 6) k).1 from nI_le (a := 8) (by omega) (by omega))]
      refine ⟨X, rfl, ?_⟩
      have hf := stW_full (f := R.1 15) (g := R.1 6) (k := k) (by omega) (n - k)
      rw [show k + (n - k) = n by omega] at hf
      unfold qI
      rw [hf]
      exact hI'
  · intro m X hI
    show ∃ R', f_X12_findWork_7 K (m + 1) x1 x2 (nI n) X = K x1 x2 R' ∧ _
    unfold f_X12_findWork_7
    rw [show mI X 0 2 = nI n from (hI.2.1 2 (by omega)).trans hn, if_pos (nI_le (by omega) (by omega))]
    exact ⟨X, rfl, hI⟩

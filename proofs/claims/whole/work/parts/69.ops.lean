/-! terms and choices -/
def tPend (by_ : Nat → Int32) (z : Nat) (R : mm_M) (p : Nat) (sg he : List Int32) (b : Int32) (d : Nat) : Prop := rS by_ z R p sg (b :: he) d ∨ ∃ b1 b2, rS by_ z R p (38 :: sg) (b2 :: b1 :: he) d ∧ b = jn 38 b1 b2
def cPend (by_ : Nat → Int32) (z : Nat) (R : mm_M) (p : Nat) (sg he : List Int32) (b : Int32) (d : Nat) : Prop := tPend by_ z R p sg he b d ∨ ∃ b1 b2, tPend by_ z R p (124 :: sg) (b1 :: he) b2 d ∧ b = jn 124 b1 b2
theorem tPend_at {by_ : Nat → Int32} {z p d : Nat} {R : mm_M} {sg he : List Int32} {b : Int32} (h : tPend by_ z R p sg he b d) : rAt by_ z R p := by
  rcases h with h | ⟨b1, b2, h, _⟩
  · exact h.1
  · exact h.1
theorem cPend_at {by_ : Nat → Int32} {z p d : Nat} {R : mm_M} {sg he : List Int32} {b : Int32} (h : cPend by_ z R p sg he b d) : rAt by_ z R p := by
  rcases h with h | ⟨b1, b2, h, _⟩
  · exact tPend_at h
  · exact tPend_at h
/-- one '&' at most is settled; n rounds left -/
theorem set_t {by_ : Nat → Int32} {z p d n : Nat} {R : mm_M} {sg he : List Int32} {b x1 : Int32} (h : tPend by_ z R p sg he b d) (hz : z ≤ 80) : ∃ R' m, n ≤ m ∧ f_X12_settle_L0 (n + 1) x1 R = f_X12_settle_L0 m x1 R' ∧ rS by_ z R' p sg (b :: he) d ∧ kpT R R' := by
  rcases h with h | ⟨b1, b2, h, e⟩
  · exact ⟨R, n + 1, by omega, rfl, h, kpT_r R⟩
  · obtain ⟨R', g1, g2, g3⟩ := set_step (n := n) (x1 := x1) h hz (Or.inl rfl)
    exact ⟨R', n, Nat.le_refl _, g1, by rw [e]; exact g2, g3⟩
theorem set_0 {by_ : Nat → Int32} {z p d : Nat} {R : mm_M} {sg he : List Int32} {b : Int32} (h : tPend by_ z R p sg he b d) (hz : z ≤ 80) (h38 : ¬ top_ sg = 38) : ∃ R', f_X12_settle 0 R = some R' ∧ rS by_ z R' p sg (b :: he) d ∧ kpT R R' := by
  obtain ⟨R', m, g0, g1, g2, g3⟩ := set_t (n := 99999) (x1 := 0) h hz
  refine ⟨R', ?_, g2, g3⟩
  rw [← set_stop (n := m) (x1 := 0) g2 hz h38 (Or.inl rfl) (by omega)]
  exact g1
theorem set_1 {by_ : Nat → Int32} {z p d : Nat} {R : mm_M} {sg he : List Int32} {b : Int32} (h : cPend by_ z R p sg he b d) (hz : z ≤ 80) (h38 : ¬ top_ sg = 38) (h124 : ¬ top_ sg = 124) : ∃ R', f_X12_settle 1 R = some R' ∧ rS by_ z R' p sg (b :: he) d ∧ kpT R R' := by
  rcases h with h | ⟨b1, b2, h, e⟩
  · obtain ⟨R', m, g0, g1, g2, g3⟩ := set_t (n := 99999) (x1 := 1) h hz
    refine ⟨R', ?_, g2, g3⟩
    rw [← set_stop (n := m) (x1 := 1) g2 hz h38 (Or.inr h124) (by omega)]
    exact g1
  · obtain ⟨R1, m, g0, g1, g2, g3⟩ := set_t (n := 99999) (x1 := 1) h hz
    obtain ⟨m, rfl⟩ : ∃ q, m = q + 1 := ⟨m - 1, by omega⟩
    obtain ⟨R', e1, e2, e3⟩ := set_step (n := m) (x1 := 1) g2 hz (Or.inr ⟨rfl, n10⟩)
    refine ⟨R', ?_, by rw [e]; exact e2, kpT_t g3 e3⟩
    rw [← set_stop (n := m) (x1 := 1) e2 hz h38 (Or.inr h124) (by omega), ← e1]
    exact g1
theorem gt_01 (x : Int32) : (if 0 < x then (1 : Int32) else 0) = 0 ↔ ¬ 0 < x := by
  by_cases e : 0 < x
  · rw [if_pos e]
    exact iff_of_false n10 (fun q => q e)
  · rw [if_neg e]
    exact iff_of_true rfl e
theorem lt01 : (0 : Int32) < 1 := by decide +kernel
theorem nlt00 : ¬ (0 : Int32) < 0 := by decide +kernel
theorem evJ_and (x y : Int32) : evJ (-2) x y = if 0 < x ∧ 0 < y then 1 else 0 := by
  unfold evJ
  rw [if_neg (by decide +kernel), if_neg (by decide +kernel), if_neg (by decide +kernel), if_neg (by decide +kernel), if_neg (by decide +kernel), if_pos rfl]
theorem evJ_or (x y : Int32) : evJ (-1) x y = if 0 < x ∨ 0 < y then 1 else 0 := by
  unfold evJ
  rw [if_neg (by decide +kernel), if_neg (by decide +kernel), if_neg (by decide +kernel), if_neg (by decide +kernel), if_neg (by decide +kernel), if_neg (by decide +kernel)]
theorem jn_and (x y : Int32) : jn 38 (if 0 < x then 1 else 0) (if 0 < y then 1 else 0) = if 0 < evJ (-2) x y then 1 else 0 := by
  rw [evJ_and]
  unfold jn
  rw [if_pos rfl]
  by_cases a : 0 < x <;> by_cases b : 0 < y <;> simp only [a, b, and_true, true_and, and_false, false_and, reduceIte, n10, lt01, nlt00]
theorem jn_or (x y : Int32) : jn 124 (if 0 < x then 1 else 0) (if 0 < y then 1 else 0) = if 0 < evJ (-1) x y then 1 else 0 := by
  rw [evJ_or]
  unfold jn
  rw [if_neg (by decide +kernel)]
  by_cases a : 0 < x <;> by_cases b : 0 < y <;> simp only [a, b, or_true, true_or, or_false, false_or, reduceIte, n10, lt01, nlt00]
def TermL (by_ : Nat → Int32) (z d p : Nat) : Prop := ∃ o, oOk z p 0 o ∧ (∀ q, o = .inr q → ¬ bAt by_ z q.1 = 38) ∧ (∀ C L i n, cAt by_ z C p L → i ≤ p → 80 < n + p → ∃ C', f_X8_readTerm_7 (t_part (8 - d)) n (nI d) (nI i) C = some C' ∧ cOut C C' L o) ∧ ∀ F R sg he b, corr F (R.1 25) → tPend by_ z R p sg he b d → ¬ top_ sg = 33 → ¬ top_ sg = 38 → match o with
  | .inl f => ∃ k, k + p ≤ 82 ∧ ∀ n, rFin (RT (n + k) 0 R) R f
  | .inr q => ∀ v, (b = if 0 < v then 1 else 0) → ∃ v' b' R' k, (∀ st, ev F q.2 (v :: st) = v' :: st) ∧ (b' = if 0 < v' then 1 else 0) ∧ k + p ≤ q.1 ∧ tPend by_ z R' q.1 sg he b' d ∧ kpT R R' ∧ ∀ n, RT (n + k) 0 R = RT n 0 R'
theorem corr_k {F : Nat → Int32} {R R' : mm_M} (h : corr F (R.1 25)) (g : kpT R R') : corr F (R'.1 25) := by
  rw [g.1 25 (by omega) (by omega) (by omega)]
  exact h
theorem term7_bad {C : mm_M} {f n : Nat} {a x : Int32} {rp : Int32 → mm_M → Option mm_M} (h : cBad C f) (hf : f ≤ 80) (hn : 0 < n) : f_X8_readTerm_7 rp n a x C = some C := by
  obtain ⟨n, rfl⟩ : ∃ q, n = q + 1 := ⟨n - 1, by omega⟩
  unfold f_X8_readTerm_7
  by_cases e : (80 : Int32) ≤ x
  · rw [if_pos e]
  · rw [if_neg e, peek_bad h hf, bi_, if_neg (by decide +kernel)]
theorem choice7_bad {C : mm_M} {f n : Nat} {a x : Int32} {rp : Int32 → mm_M → Option mm_M} (h : cBad C f) (hf : f ≤ 80) (hn : 0 < n) : f_X8_readChoice_7 rp n a x C = some C := by
  obtain ⟨n, rfl⟩ : ∃ q, n = q + 1 := ⟨n - 1, by omega⟩
  unfold f_X8_readChoice_7
  by_cases e : (80 : Int32) ≤ x
  · rw [if_pos e]
  · rw [if_neg e, peek_bad h hf, bi_, if_neg (by decide +kernel)]
theorem term_l {by_ : Nat → Int32} {z d : Nat} (hz : z ≤ 80) (hP : ∀ p, p ≤ z → PartOk by_ z d p) : ∀ (k p : Nat), z - p ≤ k → p ≤ z → TermL by_ z d p := by
  have none : ∀ p, p ≤ z → ¬ bAt by_ z p = 38 → TermL by_ z d p := by
    intro p h2 n38
    refine ⟨.inr (p, []), ⟨Nat.le_refl _, h2, by show 0 + p ≤ p; omega⟩, fun q hq => by cases hq; exact n38, ?_, ?_⟩
    · intro C L i n h hi hn
      refine ⟨C, ?_, cOut_r h⟩
      obtain ⟨n, rfl⟩ : ∃ q, n = q + 1 := ⟨n - 1, by omega⟩
      unfold f_X8_readTerm_7
      by_cases e : (80 : Int32) ≤ nI i
      · rw [if_pos e]
      · rw [if_neg e, peek_ok h hz, bi_, if_neg n38]
    · intro F R sg he b hc h t1 t2 v hv
      exact ⟨v, b, R, 0, fun st => rfl, hv, by show 0 + p ≤ p; omega, h, kpT_r R, fun n => rfl⟩
  intro k
  induction k with
  | zero =>
    intro p h1 h2
    obtain rfl : p = z := by omega
    exact none p h2 (by unfold bAt; rw [if_neg (by omega)]; decide +kernel)
  | succ k ih =>
    intro p h1 h2
    by_cases hs : bAt by_ z p = 38
    · have hlt : p < z := bAt_lt (fun q => by rw [q] at hs; revert hs; decide +kernel)
      obtain ⟨o1, k1, k2, k3⟩ := hP (p + 1) (by omega)
      have rf : ∀ F R sg he b, corr F (R.1 25) → tPend by_ z R p sg he b d → ¬ top_ sg = 38 → ∃ R2, rS by_ z R2 (p + 1) (38 :: sg) (b :: he) d ∧ kpT R R2 ∧ ∀ n, RT (n + 1) 0 R = RT n 1 R2 := by
        intro F R sg he b hc h t2
        obtain ⟨R1, g1, g2, g3⟩ := set_0 h hz t2
        obtain ⟨R2, e1, e2, e3⟩ := wait_ok 38 g2 hz hlt
        refine ⟨R2, e2, kpT_t g3 e3, fun n => ?_⟩
        rw [rt_0 (tPend_at h) hz hlt, hs]
        unfold f_X12_readText_109 f_X12_readText_257
        rw [if_pos rfl, if_pos rfl, g1, bv_, e1, bv_]
      have cl : ∀ C L i n, cAt by_ z C p L → i ≤ p → ∃ C1, cOut (sI C 9 4 (nI (p + 1))) C1 L o1 ∧ f_X8_readTerm_7 (t_part (8 - d)) (n + 1) (nI d) (nI i) C = mm_bv (f_X8_put (-2) C1) (fun M4 => f_X8_readTerm_7 (t_part (8 - d)) n (nI d) (nI (i + 1)) M4) := by
        intro C L i n h hi
        have ha := cAt_next (q := (p + 1, [])) h ⟨by omega, by omega, by show 0 + p ≤ p + 1; omega⟩ (adv_ok h hlt)
        obtain ⟨C1, g1, g2⟩ := k2 _ _ ha
        refine ⟨C1, g2, ?_⟩
        conv => lhs; unfold f_X8_readTerm_7
        unfold mI
        rw [if_neg (show ¬ (80 : Int32) ≤ nI i from nI_ge (b := 80) (by omega) (by decide)), peek_ok h hz, bi_, if_pos hs, let_, h.2.2.1, add1, g1, bv_, add1]
      cases o1 with
      | inl f =>
        have kf := k1.2
        refine ⟨.inl f, ⟨by have := k1.1; omega, kf⟩, fun q hq => by (cases hq), ?_, ?_⟩
        · intro C L i n h hi hn
          obtain ⟨n, rfl⟩ : ∃ q, n = q + 1 := ⟨n - 1, by omega⟩
          obtain ⟨C1, g1, g2⟩ := cl C L i n h hi
          obtain ⟨C2, e1, e2, e3⟩ := put_bad (-2) g1.2
          rw [g2, e1, bv_, term7_bad e3 (by omega) (by omega)]
          exact ⟨C2, rfl, cFr_t (adv_ok h hlt).1 (cFr_t g1.1 e2), e3⟩
        · intro F R sg he b hc h t1 t2
          obtain ⟨R2, g1, g2, g3⟩ := rf F R sg he b hc h t2
          obtain ⟨m, m1, m2⟩ := k3 F R2 (38 :: sg) (b :: he) (corr_k hc g2) g1
          refine ⟨m + 1, by omega, fun n => ?_⟩
          rw [show n + (m + 1) = (n + m) + 1 by omega, g3]
          exact rFin_t g2 (m2 n)
      | inr q =>
        obtain ⟨kq1, kq2, kq3⟩ := k1
        obtain ⟨o3, m1, m2, m3, m4⟩ := ih q.1 (by omega) kq2
        have hlen : (q.2 ++ [(-2 : Int32)]).length + p ≤ q.1 := by
          rw [List.length_append]
          show q.2.length + 1 + p ≤ q.1
          omega
        refine ⟨oApp (q.2 ++ [-2]) o3, oOk_app (e := 0) (e' := 0) (q := (q.1, q.2 ++ [-2])) ⟨by show p + 0 ≤ q.1; omega, kq2, hlen⟩ m1, ?_, ?_, ?_⟩
        · intro w hw
          cases o3 with
          | inl f => cases hw
          | inr w3 =>
            cases hw
            exact m2 w3 rfl
        · intro C L i n h hi hn
          obtain ⟨n, rfl⟩ : ∃ q, n = q + 1 := ⟨n - 1, by omega⟩
          obtain ⟨C1, g1, g2⟩ := cl C L i n h hi
          have ha := cAt_next (q := (p + 1, [])) h ⟨by omega, by omega, by show 0 + p ≤ p + 1; omega⟩ (adv_ok h hlt)
          have hb := cAt_next (q := q) ha ⟨by show p + 1 + 0 ≤ q.1; omega, kq2, kq3⟩ g1
          have l2' := h.2.2.2.2.2.1
          obtain ⟨C2, e1, e2⟩ := put_ok (-2) hb (by show L + 0 + q.2.length < 80; omega)
          have s1' := cOut_app (q := (p + 1, [])) (o := .inr q) (adv_ok h hlt) g1
          have s2' := cOut_app (q := (q.1, q.2)) (o := .inr (q.1, [-2])) s1' e2
          have hd := cAt_next (q := (q.1, q.2 ++ [-2])) h ⟨by show p + 0 ≤ q.1; omega, kq2, hlen⟩ s2'
          obtain ⟨C4, e3, e4⟩ := m3 C2 _ (i + 1) n hd (by omega) (by omega)
          rw [g2, e1, bv_, e3]
          exact ⟨C4, rfl, cOut_app s2' e4⟩
        · intro F R sg he b hc h t1 t2
          obtain ⟨R2, g1, g2, g3⟩ := rf F R sg he b hc h t2
          obtain ⟨v2, b2, R3, kk, j, e1, e2, e3, e4, e5, e6, e7⟩ := k3 F R2 (38 :: sg) (b :: he) (corr_k hc g2) g1
          have st : ∀ n, RT (n + (kk + 1)) 0 R = RT n 0 R3 := by
            intro n
            rw [show n + (kk + 1) = (n + kk) + 1 by omega, g3, e7, nots_stop e5 hz (by show ¬ (38 : Int32) = 33; decide +kernel) (by have : mm_fu = 100000 := rfl; omega), bv_]
          have hp3 : tPend by_ z R3 q.1 sg he (jn 38 b b2) d := Or.inr ⟨b, b2, e5, rfl⟩
          have k4 := m4 F R3 sg he (jn 38 b b2) (corr_k hc (kpT_t g2 e6)) hp3 t1 t2
          cases o3 with
          | inl f =>
            obtain ⟨k5, l1', l2'⟩ := k4
            refine ⟨k5 + (kk + 1), by omega, fun n => ?_⟩
            rw [show n + (k5 + (kk + 1)) = (n + k5) + (kk + 1) by omega, st]
            exact rFin_t (kpT_t g2 e6) (l2' n)
          | inr w =>
            intro v hv
            obtain ⟨v', b', R4, k5, l1', l2', l3', l4', l5', l6'⟩ := k4 (evJ (-2) v v2) (by rw [hv, e2]; exact jn_and v v2)
            refine ⟨v', b', R4, k5 + (kk + 1), fun s => ?_, l2', ?_, l4', kpT_t (kpT_t g2 e6) l5', fun n => ?_⟩
            · show ev F ((q.2 ++ [-2]) ++ w.2) (v :: s) = _
              rw [ev_app, ev_app, e1 (v :: s), ← l1' s]
              rfl
            · show k5 + (kk + 1) + p ≤ w.1
              omega
            · rw [show n + (k5 + (kk + 1)) = (n + k5) + (kk + 1) by omega, st]
              exact l6' n
    · exact none p h2 hs

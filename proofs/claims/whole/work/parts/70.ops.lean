def RTerm (by_ : Nat → Int32) (z : Nat) (F : Nat → Int32) (d p : Nat) (o : mm_o) : Prop := ∀ R sg he, corr F (R.1 25) → rS by_ z R p sg he d → ¬ top_ sg = 33 → ¬ top_ sg = 38 → match o with
  | .inl f => ∃ k, k + p ≤ 82 ∧ ∀ n, rFin (RT (n + k) 1 R) R f
  | .inr q => ∃ v b R' k, (∀ st, ev F q.2 st = v :: st) ∧ (b = if 0 < v then 1 else 0) ∧ k + p ≤ q.1 ∧ tPend by_ z R' q.1 sg he b d ∧ kpT R R' ∧ ∀ n, RT (n + k) 1 R = RT n 0 R'
def TermOk (by_ : Nat → Int32) (z d p : Nat) : Prop := ∃ o, oOk z p 1 o ∧ (∀ q, o = .inr q → ¬ bAt by_ z q.1 = 38) ∧ (∀ C L, cAt by_ z C p L → ∃ C', f_X8_readTerm (t_part (8 - d)) (nI d) C = some C' ∧ cOut C C' L o) ∧ ∀ F, RTerm by_ z F d p o
theorem term_ok {by_ : Nat → Int32} {z d p : Nat} (hz : z ≤ 80) (hP : ∀ p, p ≤ z → PartOk by_ z d p) (hp : p ≤ z) : TermOk by_ z d p := by
  obtain ⟨o1, k1, k2, k3⟩ := hP p hp
  cases o1 with
  | inl f =>
    refine ⟨.inl f, k1, fun q hq => by (cases hq), ?_, ?_⟩
    · intro C L h
      obtain ⟨C1, g1, g2⟩ := k2 C L h
      unfold f_X8_readTerm
      rw [g1, bv_, term7_bad g2.2 (by have := k1.2; omega) (fuGt (by omega))]
      exact ⟨C1, rfl, g2⟩
    · intro F R sg he hc h t1 t2
      exact k3 F R sg he hc h
  | inr q =>
    obtain ⟨o2, m1, m2, m3, m4⟩ := term_l hz hP (z - q.1) q.1 (Nat.le_refl _) k1.2.1
    have kq1 : p + 1 ≤ q.1 := k1.1
    refine ⟨oApp q.2 o2, oOk_app k1 m1, ?_, ?_, ?_⟩
    · intro w hw
      cases o2 with
      | inl f => cases hw
      | inr w3 =>
        cases hw
        exact m2 w3 rfl
    · intro C L h
      obtain ⟨C1, g1, g2⟩ := k2 C L h
      have hb := cAt_next h (oOk_w k1) g2
      obtain ⟨C2, g3, g4⟩ := m3 C1 _ 0 mm_fu hb (by omega) (by show 80 < 100000 + q.1; omega)
      unfold f_X8_readTerm
      rw [g1, bv_, show (0 : Int32) = nI 0 from rfl, g3]
      exact ⟨C2, rfl, cOut_app g2 g4⟩
    · intro F R sg he hc h t1 t2
      obtain ⟨v, b, R1, kk, j, e1, e2, e3, e4, e5, e6, e7⟩ := k3 F R sg he hc h
      have hq2 := k1.2.1
      have st : ∀ n, RT (n + kk) 1 R = RT n 0 R1 := by
        intro n
        rw [e7, nots_stop e5 hz t1 (by have : mm_fu = 100000 := rfl; omega), bv_]
      have k4 := m4 F R1 sg he b (corr_k hc e6) (Or.inl e5) t1 t2
      cases o2 with
      | inl f =>
        obtain ⟨k5, l1', l2'⟩ := k4
        refine ⟨k5 + kk, by omega, fun n => ?_⟩
        rw [show n + (k5 + kk) = (n + k5) + kk by omega, st]
        exact rFin_t e6 (l2' n)
      | inr w =>
        obtain ⟨v', b', R4, k5, l1', l2', l3', l4', l5', l6'⟩ := k4 v e2
        refine ⟨v', b', R4, k5 + kk, fun s => ?_, l2', ?_, l4', kpT_t e6 l5', fun n => ?_⟩
        · show ev F (q.2 ++ w.2) s = _
          rw [ev_app, e1 s, l1' s]
        · show k5 + kk + p ≤ w.1
          omega
        · rw [show n + (k5 + kk) = (n + k5) + kk by omega, st]
          exact l6' n
def ChoL (by_ : Nat → Int32) (z d p : Nat) : Prop := ∃ o, oOk z p 0 o ∧ (∀ q, o = .inr q → ¬ bAt by_ z q.1 = 38 ∧ ¬ bAt by_ z q.1 = 124) ∧ (∀ C L i n, cAt by_ z C p L → i ≤ p → 80 < n + p → ∃ C', f_X8_readChoice_7 (f_X8_readTerm (t_part (8 - d))) n (nI d) (nI i) C = some C' ∧ cOut C C' L o) ∧ ∀ F R sg he b, corr F (R.1 25) → cPend by_ z R p sg he b d → ¬ top_ sg = 38 → ¬ top_ sg = 124 → match o with
  | .inl f => ∃ k, k + p ≤ 82 ∧ ∀ n, rFin (RT (n + k) 0 R) R f
  | .inr q => ∀ v, (b = if 0 < v then 1 else 0) → ∃ v' b' R' k, (∀ st, ev F q.2 (v :: st) = v' :: st) ∧ (b' = if 0 < v' then 1 else 0) ∧ k + p ≤ q.1 ∧ cPend by_ z R' q.1 sg he b' d ∧ kpT R R' ∧ ∀ n, RT (n + k) 0 R = RT n 0 R'
theorem cho_l {by_ : Nat → Int32} {z d : Nat} (hz : z ≤ 80) (hP : ∀ p, p ≤ z → TermOk by_ z d p) : ∀ (k p : Nat), z - p ≤ k → p ≤ z → ¬ bAt by_ z p = 38 → ChoL by_ z d p := by
  have none : ∀ p, p ≤ z → ¬ bAt by_ z p = 38 → ¬ bAt by_ z p = 124 → ChoL by_ z d p := by
    intro p h2 n38 n124
    refine ⟨.inr (p, []), ⟨Nat.le_refl _, h2, by show 0 + p ≤ p; omega⟩, fun q hq => by cases hq; exact ⟨n38, n124⟩, ?_, ?_⟩
    · intro C L i n h hi hn
      refine ⟨C, ?_, cOut_r h⟩
      obtain ⟨n, rfl⟩ : ∃ q, n = q + 1 := ⟨n - 1, by omega⟩
      unfold f_X8_readChoice_7
      by_cases e : (80 : Int32) ≤ nI i
      · rw [if_pos e]
      · rw [if_neg e, peek_ok h hz, bi_, if_neg n124]
    · intro F R sg he b hc h t1 t2 v hv
      exact ⟨v, b, R, 0, fun st => rfl, hv, by show 0 + p ≤ p; omega, h, kpT_r R, fun n => rfl⟩
  intro k
  induction k with
  | zero =>
    intro p h1 h2 n38
    obtain rfl : p = z := by omega
    exact none p h2 n38 (by unfold bAt; rw [if_neg (by omega)]; decide +kernel)
  | succ k ih =>
    intro p h1 h2 n38
    by_cases hs : bAt by_ z p = 124
    · have hlt : p < z := bAt_lt (fun q => by rw [q] at hs; revert hs; decide +kernel)
      obtain ⟨o1, k1, k0, k2, k3⟩ := hP (p + 1) (by omega)
      have rf : ∀ F R sg he b, corr F (R.1 25) → cPend by_ z R p sg he b d → ¬ top_ sg = 38 → ¬ top_ sg = 124 → ∃ R2, rS by_ z R2 (p + 1) (124 :: sg) (b :: he) d ∧ kpT R R2 ∧ ∀ n, RT (n + 1) 0 R = RT n 1 R2 := by
        intro F R sg he b hc h t1 t2
        obtain ⟨R1, g1, g2, g3⟩ := set_1 h hz t1 t2
        obtain ⟨R2, e1, e2, e3⟩ := wait_ok 124 g2 hz hlt
        refine ⟨R2, e2, kpT_t g3 e3, fun n => ?_⟩
        rw [rt_0 (cPend_at h) hz hlt, hs]
        unfold f_X12_readText_109 f_X12_readText_257
        rw [if_pos rfl, if_neg (by decide +kernel), if_pos rfl, g1, bv_, e1, bv_]
      have cl : ∀ C L i n, cAt by_ z C p L → i ≤ p → ∃ C1, cOut (sI C 9 4 (nI (p + 1))) C1 L o1 ∧ f_X8_readChoice_7 (f_X8_readTerm (t_part (8 - d))) (n + 1) (nI d) (nI i) C = mm_bv (f_X8_put (-1) C1) (fun M4 => f_X8_readChoice_7 (f_X8_readTerm (t_part (8 - d))) n (nI d) (nI (i + 1)) M4) := by
        intro C L i n h hi
        have ha := cAt_next (q := (p + 1, [])) h ⟨by omega, by omega, by show 0 + p ≤ p + 1; omega⟩ (adv_ok h hlt)
        obtain ⟨C1, g1, g2⟩ := k2 _ _ ha
        refine ⟨C1, g2, ?_⟩
        conv => lhs; unfold f_X8_readChoice_7
        unfold mI
        rw [if_neg (show ¬ (80 : Int32) ≤ nI i from nI_ge (b := 80) (by omega) (by decide)), peek_ok h hz, bi_, if_pos hs, let_, h.2.2.1, add1, g1, bv_, add1]
      cases o1 with
      | inl f =>
        have kf := k1.2
        refine ⟨.inl f, ⟨by have := k1.1; omega, kf⟩, fun q hq => by (cases hq), ?_, ?_⟩
        · intro C L i n h hi hn
          obtain ⟨n, rfl⟩ : ∃ q, n = q + 1 := ⟨n - 1, by omega⟩
          obtain ⟨C1, g1, g2⟩ := cl C L i n h hi
          obtain ⟨C2, e1, e2, e3⟩ := put_bad (-1) g1.2
          rw [g2, e1, bv_, choice7_bad e3 (by omega) (by omega)]
          exact ⟨C2, rfl, cFr_t (adv_ok h hlt).1 (cFr_t g1.1 e2), e3⟩
        · intro F R sg he b hc h t1 t2
          obtain ⟨R2, g1, g2, g3⟩ := rf F R sg he b hc h t1 t2
          obtain ⟨m, m1, m2⟩ := k3 F R2 (124 :: sg) (b :: he) (corr_k hc g2) g1 (by show ¬ (124 : Int32) = 33; decide +kernel) (by show ¬ (124 : Int32) = 38; decide +kernel)
          refine ⟨m + 1, by omega, fun n => ?_⟩
          rw [show n + (m + 1) = (n + m) + 1 by omega, g3]
          exact rFin_t g2 (m2 n)
      | inr q =>
        obtain ⟨kq1, kq2, kq3⟩ := k1
        obtain ⟨o3, m1, m2, m3, m4⟩ := ih q.1 (by omega) kq2 (k0 q rfl)
        have hlen : (q.2 ++ [(-1 : Int32)]).length + p ≤ q.1 := by
          rw [List.length_append]
          show q.2.length + 1 + p ≤ q.1
          omega
        refine ⟨oApp (q.2 ++ [-1]) o3, oOk_app (e := 0) (e' := 0) (q := (q.1, q.2 ++ [-1])) ⟨by show p + 0 ≤ q.1; omega, kq2, hlen⟩ m1, ?_, ?_, ?_⟩
        · intro w hw
          cases o3 with
          | inl f => cases hw
          | inr w3 =>
            cases hw
            exact m2 w3 rfl
        · intro C L i n h hi hn
          obtain ⟨n, rfl⟩ : ∃ q, n = q + 1 := ⟨n - 1, by omega⟩
          obtain ⟨C1, g1, g2⟩ := cl C L i n h hi
          have ha := cAt_next (q := (p + 1, [])) h ⟨by omega, by omega, by show 0 + p ≤ p + 1; omega⟩ (adv_ok h hlt)
          have hb := cAt_next (q := q) ha ⟨by show p + 1 + 0 ≤ q.1; omega, kq2, kq3⟩ g1
          have l2' := h.2.2.2.2.2.1
          obtain ⟨C2, e1, e2⟩ := put_ok (-1) hb (by show L + 0 + q.2.length < 80; omega)
          have s1' := cOut_app (q := (p + 1, [])) (o := .inr q) (adv_ok h hlt) g1
          have s2' := cOut_app (q := (q.1, q.2)) (o := .inr (q.1, [-1])) s1' e2
          have hd := cAt_next (q := (q.1, q.2 ++ [-1])) h ⟨by show p + 0 ≤ q.1; omega, kq2, hlen⟩ s2'
          obtain ⟨C4, e3, e4⟩ := m3 C2 _ (i + 1) n hd (by omega) (by omega)
          rw [g2, e1, bv_, e3]
          exact ⟨C4, rfl, cOut_app s2' e4⟩
        · intro F R sg he b hc h t1 t2
          obtain ⟨R2, g1, g2, g3⟩ := rf F R sg he b hc h t1 t2
          obtain ⟨v2, b2, R3, kk, e1, e2, e3, e5, e6, e7⟩ := k3 F R2 (124 :: sg) (b :: he) (corr_k hc g2) g1 (by show ¬ (124 : Int32) = 33; decide +kernel) (by show ¬ (124 : Int32) = 38; decide +kernel)
          have st : ∀ n, RT (n + (kk + 1)) 0 R = RT n 0 R3 := by
            intro n
            rw [show n + (kk + 1) = (n + kk) + 1 by omega, g3, e7]
          have hp3 : cPend by_ z R3 q.1 sg he (jn 124 b b2) d := Or.inr ⟨b, b2, e5, rfl⟩
          have k4 := m4 F R3 sg he (jn 124 b b2) (corr_k hc (kpT_t g2 e6)) hp3 t1 t2
          cases o3 with
          | inl f =>
            obtain ⟨k5, l1', l2'⟩ := k4
            refine ⟨k5 + (kk + 1), by omega, fun n => ?_⟩
            rw [show n + (k5 + (kk + 1)) = (n + k5) + (kk + 1) by omega, st]
            exact rFin_t (kpT_t g2 e6) (l2' n)
          | inr w =>
            intro v hv
            obtain ⟨v', b', R4, k5, l1', l2', l3', l4', l5', l6'⟩ := k4 (evJ (-1) v v2) (by rw [hv, e2]; exact jn_or v v2)
            refine ⟨v', b', R4, k5 + (kk + 1), fun s => ?_, l2', ?_, l4', kpT_t (kpT_t g2 e6) l5', fun n => ?_⟩
            · show ev F ((q.2 ++ [-1]) ++ w.2) (v :: s) = _
              rw [ev_app, ev_app, e1 (v :: s), ← l1' s]
              rfl
            · show k5 + (kk + 1) + p ≤ w.1
              omega
            · rw [show n + (k5 + (kk + 1)) = (n + k5) + (kk + 1) by omega, st]
              exact l6' n
    · exact none p h2 n38 hs
def RCho (by_ : Nat → Int32) (z : Nat) (F : Nat → Int32) (d p : Nat) (o : mm_o) : Prop := ∀ R sg he, corr F (R.1 25) → rS by_ z R p sg he d → ¬ top_ sg = 33 → ¬ top_ sg = 38 → ¬ top_ sg = 124 → match o with
  | .inl f => ∃ k, k + p ≤ 82 ∧ ∀ n, rFin (RT (n + k) 1 R) R f
  | .inr q => ∃ v b R' k, (∀ st, ev F q.2 st = v :: st) ∧ (b = if 0 < v then 1 else 0) ∧ k + p ≤ q.1 ∧ cPend by_ z R' q.1 sg he b d ∧ kpT R R' ∧ ∀ n, RT (n + k) 1 R = RT n 0 R'
def ChoOk (by_ : Nat → Int32) (z d p : Nat) : Prop := ∃ o, oOk z p 1 o ∧ (∀ q, o = .inr q → ¬ bAt by_ z q.1 = 38 ∧ ¬ bAt by_ z q.1 = 124) ∧ (∀ C L, cAt by_ z C p L → ∃ C', f_X8_readChoice (f_X8_readTerm (t_part (8 - d))) (nI d) C = some C' ∧ cOut C C' L o) ∧ ∀ F, RCho by_ z F d p o
theorem cho_ok {by_ : Nat → Int32} {z d p : Nat} (hz : z ≤ 80) (hP : ∀ p, p ≤ z → PartOk by_ z d p) (hp : p ≤ z) : ChoOk by_ z d p := by
  obtain ⟨o1, k1, k0, k2, k3⟩ := term_ok hz hP hp
  cases o1 with
  | inl f =>
    refine ⟨.inl f, k1, fun q hq => by (cases hq), ?_, ?_⟩
    · intro C L h
      obtain ⟨C1, g1, g2⟩ := k2 C L h
      unfold f_X8_readChoice
      rw [g1, bv_, choice7_bad g2.2 (by have := k1.2; omega) (fuGt (by omega))]
      exact ⟨C1, rfl, g2⟩
    · intro F R sg he hc h t1 t2 t3
      exact k3 F R sg he hc h t1 t2
  | inr q =>
    obtain ⟨o2, m1, m2, m3, m4⟩ := cho_l hz (fun p hp => term_ok hz hP hp) (z - q.1) q.1 (Nat.le_refl _) k1.2.1 (k0 q rfl)
    have kq1 : p + 1 ≤ q.1 := k1.1
    refine ⟨oApp q.2 o2, oOk_app k1 m1, ?_, ?_, ?_⟩
    · intro w hw
      cases o2 with
      | inl f => cases hw
      | inr w3 =>
        cases hw
        exact m2 w3 rfl
    · intro C L h
      obtain ⟨C1, g1, g2⟩ := k2 C L h
      have hb := cAt_next h (oOk_w k1) g2
      obtain ⟨C2, g3, g4⟩ := m3 C1 _ 0 mm_fu hb (by omega) (by show 80 < 100000 + q.1; omega)
      unfold f_X8_readChoice
      rw [g1, bv_, show (0 : Int32) = nI 0 from rfl, g3]
      exact ⟨C2, rfl, cOut_app g2 g4⟩
    · intro F R sg he hc h t1 t2 t3
      obtain ⟨v, b, R1, kk, e1, e2, e3, e5, e6, e7⟩ := k3 F R sg he hc h t1 t2
      have hq2 := k1.2.1
      have k4 := m4 F R1 sg he b (corr_k hc e6) (Or.inl e5) t2 t3
      cases o2 with
      | inl f =>
        obtain ⟨k5, l1', l2'⟩ := k4
        refine ⟨k5 + kk, by omega, fun n => ?_⟩
        rw [show n + (k5 + kk) = (n + k5) + kk by omega, e7]
        exact rFin_t e6 (l2' n)
      | inr w =>
        obtain ⟨v', b', R4, k5, l1', l2', l3', l4', l5', l6'⟩ := k4 v e2
        refine ⟨v', b', R4, k5 + kk, fun s => ?_, l2', ?_, l4', kpT_t e6 l5', fun n => ?_⟩
        · show ev F (q.2 ++ w.2) s = _
          rw [ev_app, e1 s, l1' s]
        · show k5 + kk + p ≤ w.1
          omega
        · rw [show n + (k5 + kk) = (n + k5) + kk by omega, e7]
          exact l6' n

/-! work and workAt -/
theorem h0y {C : mm_M} {j : Nat} (hj : j < 8) : f_X0_has (nI j) C = some (1, C) := by
  unfold f_X0_has
  rw [if_neg (nI_pos (by omega)), if_neg (show ¬ (8 : Int32) ≤ nI j from nI_ge (b := 8) hj (by omega))]
theorem h0n {C : mm_M} {a : Int32} (ha : a < 0 ∨ nI 8 ≤ a) : f_X0_has a C = some (0, C) := by
  unfold f_X0_has
  by_cases h0 : a < 0
  · rw [if_pos h0]
  · rw [if_neg h0, if_pos (show (8 : Int32) ≤ a by rcases ha with q | q; exact absurd q h0; exact q)]
theorem wr_two {C R : mm_M} (h : Rel C R) (a b : Int32) : (∃ x, (x = -1 ∨ x = -5) ∧ f_X11_workRefusal a b C = some (x, C) ∧ f_X12_wrongWork a b R = some (x, R)) ∨ ∃ i j, i < 8 ∧ j < 8 ∧ a = nI i ∧ b = nI j ∧ f_X11_workRefusal a b C = some (0, C) ∧ f_X12_wrongWork a b R = some (0, R) := by
  have h' := h
  obtain ⟨⟨⟨bd, bn, bt, bu, bv, bw, bl⟩, ⟨sa, sb, sc, sd, se, sf, sg, sh⟩, ⟨ka, kb, kc, kd, ke⟩, ⟨ta, tb, tc, td, te, tf, tg⟩, ⟨ra, rb, rc, rd, re_, rf⟩, ⟨qa, qb, qc, qd, qe⟩⟩, hr, hl, hw, d, n, t, u, v, w, ⟨⟨⟨id1, id2⟩, ⟨in1, in2⟩, ⟨it1, it2⟩, ⟨iu1, iu2⟩, ⟨iv1, iv2⟩, ⟨iw1, iw2⟩, ilv⟩, jS, jK, jT, jR, jC, jB, jM, jD, jL⟩, hrule, hhome⟩ := h'
  unfold f_X11_workRefusal f_X12_wrongWork
  rcases ix_of a (n := 8) (by omega) with ⟨i, hi, rfl⟩ | ha
  · rw [h0y hi, in_jx R (n := 7) (hi := 7) (by omega) (by decide +kernel) hi, bi_, bi_, if_neg n10, if_neg n10]
    rcases ix_of b (n := 8) (by omega) with ⟨j, hj, rfl⟩ | hb
    · rw [h0y hj, in_jx R (n := 7) (hi := 7) (by omega) (by decide +kernel) hj, bi_, bi_, if_neg n10, if_neg n10]
      by_cases e : nI i = nI j
      · rw [if_pos e, if_pos e]
        exact Or.inl ⟨-1, Or.inl rfl, rfl, rfl⟩
      · rw [if_neg e, if_neg e, ckI hi (by omega), ckI hi (by omega), ckI hj (by omega), ckI hj (by omega), clI (by omega), clI (by omega)]
        unfold mI
        rw [ka]
        by_cases c1 : R.1 9 i = 0
        · rw [if_pos c1, if_pos c1]
          exact Or.inl ⟨-5, Or.inr rfl, rfl, rfl⟩
        · rw [if_neg c1, if_neg c1]
          by_cases c2 : R.1 9 j = 0
          · rw [if_pos c2, if_pos c2]
            exact Or.inl ⟨-5, Or.inr rfl, rfl, rfl⟩
          · rw [if_neg c2, if_neg c2]
            rcases hw.2 with ⟨q1, q2⟩ | ⟨q1, q2, _⟩
            · rw [if_pos q1, if_pos q2]
              exact Or.inl ⟨-5, Or.inr rfl, rfl, rfl⟩
            · rw [if_neg q1, if_neg q2]
              exact Or.inr ⟨i, j, hi, hj, rfl, rfl, rfl, rfl⟩
    · rw [h0n hb, in_ix R (n := 7) (hi := 7) (by omega) (by decide +kernel) hb, bi_, bi_, if_pos rfl, if_pos rfl]
      exact Or.inl ⟨-1, Or.inl rfl, rfl, rfl⟩
  · rw [h0n ha, in_ix R (n := 7) (hi := 7) (by omega) (by decide +kernel) ha, bi_, bi_, if_pos rfl, if_pos rfl]
    exact Or.inl ⟨-1, Or.inl rfl, rfl, rfl⟩
theorem g1n : ¬ (0 : Int32) ≤ -1 := by decide +kernel
theorem g5n : ¬ (0 : Int32) ≤ -5 := by decide +kernel
theorem w36 {C R : mm_M} (h : Rel C R) {i j : Nat} (hi : i < 8) (hj : j < 8) (c : Int32) : ends (f_X11_work_36 (nI i) (nI j) c C) (mm_bv (f_X12_findWork (nI i) (nI j) R) (fun M4 => if 0 ≤ (mI M4 0 65) then (if c = 0 then some (mI M4 0 66, M4) else some (mI M4 0 67, M4)) else some ((-9 : Int32), M4))) := by
  obtain ⟨C', R', W, px, py, sh, V, o, g1, g2, g3, g4, p1, p2, p3, p4, p5, p6, p7, p8, p9⟩ := plan_all h hi hj
  have hrel := rel_w h g3 g4
  unfold f_X11_work_36
  rw [g1, g2, bv_, bv_]
  unfold mI
  cases o with
  | none =>
    rw [if_pos (show C'.1 10 9 = 0 from p7), show R'.1 0 65 = -1 from p8, if_neg g1n]
    exact ends_of hrel
  | some b =>
    obtain ⟨c1, c2, c3, c4⟩ := p7
    obtain ⟨d1, d2, d3⟩ := p8
    have hb := p9 b rfl
    have hW := p1.2.1
    have h256 := w256 hW
    have hrv := rv_1 W (by omega) b hb
    rw [c1, if_neg n10, d1, if_pos (nI_pos' (by omega)), c3, c4, d2, d3]
    by_cases e : c = 0
    · rw [if_pos e, if_pos e]
      exact ends_of hrel
    · rw [if_neg e, if_neg e]
      exact ends_of hrel
theorem ok_work (a b c : Int32) : op_i Rel (f_X11_work a b c) (f_X12_work a b c) := by
  intro C R h
  unfold f_X12_work
  rw [let_]
  have h := rel_t h 0
  generalize sI R 0 0 0 = R at h ⊢
  show ends _ _
  unfold f_X11_work
  try unfold mI
  have h' := h
  obtain ⟨⟨⟨bd, bn, bt, bu, bv, bw, bl⟩, ⟨sa, sb, sc, sd, se, sf, sg, sh⟩, ⟨ka, kb, kc, kd, ke⟩, ⟨ta, tb, tc, td, te, tf, tg⟩, ⟨ra, rb, rc, rd, re_, rf⟩, ⟨qa, qb, qc, qd, qe⟩⟩, hr, hl, hw, d, n, t, u, v, w, ⟨⟨⟨id1, id2⟩, ⟨in1, in2⟩, ⟨it1, it2⟩, ⟨iu1, iu2⟩, ⟨iv1, iv2⟩, ⟨iw1, iw2⟩, ilv⟩, jS, jK, jT, jR, jC, jB, jM, jD, jL⟩, hrule, hhome⟩ := h'
  rcases wr_two h a b with ⟨x, x1, x2, x3⟩ | ⟨i, j, hi, hj, rfl, rfl, x2, x3⟩
  · rw [x2, x3, bi_, bi_]
    rcases x1 with rfl | rfl
    · rw [if_neg (by rw [z1]; exact id), if_neg g1n, x3, bi_, bi_id, bi_id]
      exact ref1 h
    · rw [if_neg (by rw [z5]; exact id), if_neg g5n, x3, bi_, bi_id, bi_id]
      exact ref5 h
  · rw [x2, x3, bi_, bi_, if_pos rfl, if_pos le00]
    rcases ix_of c (n := 2) (by omega) with ⟨k, hk, rfl⟩ | hc
    · rw [in_jx R (n := 1) (hi := 1) (by omega) (by decide +kernel) hk, bi_, if_neg n10]
      rcases (show k = 0 ∨ k = 1 by omega) with rfl | rfl
      · rw [if_pos (show nI 0 = 0 from rfl)]
        exact w36 h hi hj (nI 0)
      · rw [if_neg (show ¬ nI 1 = 0 from n10), if_pos (show nI 1 = 1 from rfl)]
        exact w36 h hi hj (nI 1)
    · have hn0 : ¬ c = 0 := by
        intro e
        rw [e] at hc
        rcases hc with q | q
        · exact absurd q (by decide +kernel)
        · exact absurd q (by decide +kernel)
      have hn1 : ¬ c = 1 := by
        intro e
        rw [e] at hc
        rcases hc with q | q
        · exact absurd q (by decide +kernel)
        · exact absurd q (by decide +kernel)
      rw [if_neg hn0, if_neg hn1, in_ix R (n := 1) (hi := 1) (by omega) (by decide +kernel) hc, bi_, if_pos rfl, bi_id, bi_id]
      exact ref2 h
def ag (s : Nat) (f : Nat → Nat) : Nat → Nat
  | 0 => 0
  | i + 1 => if s / 2 ^ i % 2 = 1 then (if f i < mnF s f i then i else ag s f i) else ag s f i
theorem mnF_s (s : Nat) (f : Nat → Nat) (i : Nat) : mnF s f (i + 1) = if s / 2 ^ i % 2 = 1 then (if f i < mnF s f i then f i else mnF s f i) else mnF s f i := rfl
theorem ag_s (s : Nat) (f : Nat → Nat) (i : Nat) : ag s f (i + 1) = if s / 2 ^ i % 2 = 1 then (if f i < mnF s f i then i else ag s f i) else ag s f i := rfl
theorem ag_ok {s : Nat} {f : Nat → Nat} : ∀ m, mnF s f m < 1000000 → ag s f m < m ∧ s / 2 ^ (ag s f m) % 2 = 1 ∧ f (ag s f m) = mnF s f m ∧ ∀ i, i < ag s f m → s / 2 ^ i % 2 = 1 → mnF s f m < f i := by
  intro m
  induction m with
  | zero => exact fun h => absurd h (by show ¬ 1000000 < 1000000; omega)
  | succ m ih =>
    intro h
    rw [mnF_s] at h
    rw [ag_s, mnF_s]
    by_cases e : s / 2 ^ m % 2 = 1
    · rw [if_pos e] at h
      rw [if_pos e, if_pos e]
      by_cases z : f m < mnF s f m
      · rw [if_pos z, if_pos z]
        refine ⟨by omega, e, rfl, fun i hi he => ?_⟩
        have := mnF_le (s := s) (f := f) hi he
        omega
      · rw [if_neg z] at h
        rw [if_neg z, if_neg z]
        obtain ⟨h1, h2, h3, h4⟩ := ih h
        exact ⟨by omega, h2, h3, h4⟩
    · rw [if_neg e] at h
      rw [if_neg e, if_neg e]
      obtain ⟨h1, h2, h3, h4⟩ := ih h
      exact ⟨by omega, h2, h3, h4⟩
theorem ag_le {s : Nat} {f : Nat → Nat} : ∀ m, ag s f m ≤ m := by
  intro m
  induction m with
  | zero => exact Nat.le_refl _
  | succ m ih =>
    unfold ag
    split
    · split <;> omega
    · omega
theorem next_c {W : Nat} {px py sh : Nat → Nat} {V : Nat → Nat → Nat} {C : mm_M} (h : plC W px py sh C) (hV : VOk W px py V) (hL : ∀ a b, vl W a → vl W b → Lg px py a b ≤ 120) {l c : Nat} (hl : vl W l) (hc : c < 2 ^ W) (hw : wsOk W V (C.1 64) c) : f_X4_nextStop (nI l) (nI c) C = some (nI (ag (rv W c) (fun i => Lg px py l i + V (rv W c - 2 ^ i) i) W), C) := by
  have hW := h.2.1
  have h256 := w256 hW
  have hr := rv_1 W (by omega) c hc
  unfold f_X4_nextStop
  rw [mil]
  refine lpf (fun n i => f_X4_nextStop_9 n (nI l) (nI c) (nI (mnF (rv W c) (fun i => Lg px py l i + V (rv W c - 2 ^ i) i) i)) (nI (ag (rv W c) (fun i => Lg px py l i + V (rv W c - 2 ^ i) i) i)) (nI i) C) (c := W) (by omega) ?_ ?_
  · intro i n hi
    show f_X4_nextStop_9 (n + 1) _ _ _ _ _ _ = f_X4_nextStop_9 n _ _ _ _ _ _
    have hm : mnF (rv W c) (fun i => Lg px py l i + V (rv W c - 2 ^ i) i) (i + 1) = if rv W c / 2 ^ i % 2 = 1 then (if Lg px py l i + V (rv W c - 2 ^ i) i < mnF (rv W c) (fun i => Lg px py l i + V (rv W c - 2 ^ i) i) i then Lg px py l i + V (rv W c - 2 ^ i) i else mnF (rv W c) (fun i => Lg px py l i + V (rv W c - 2 ^ i) i) i) else mnF (rv W c) (fun i => Lg px py l i + V (rv W c - 2 ^ i) i) i := rfl
    have hg : ag (rv W c) (fun i => Lg px py l i + V (rv W c - 2 ^ i) i) (i + 1) = if rv W c / 2 ^ i % 2 = 1 then (if Lg px py l i + V (rv W c - 2 ^ i) i < mnF (rv W c) (fun i => Lg px py l i + V (rv W c - 2 ^ i) i) i then i else ag (rv W c) (fun i => Lg px py l i + V (rv W c - 2 ^ i) i) i) else ag (rv W c) (fun i => Lg px py l i + V (rv W c - 2 ^ i) i) i := rfl
    have htop := mnF_top (s := rv W c) (f := fun i => Lg px py l i + V (rv W c - 2 ^ i) i) i
    rw [hm, hg]
    generalize mnF (rv W c) (fun i => Lg px py l i + V (rv W c - 2 ^ i) i) i = m at htop ⊢
    generalize ag (rv W c) (fun i => Lg px py l i + V (rv W c - 2 ^ i) i) i = y
    rw [rv_2 W (by omega) c hc i hi]
    conv => lhs; unfold f_X4_nextStop_9 f_X4_nextStop_78
    rw [show mI C 10 7 = nI W from h.1, if_neg (nI_ge hi (by omega)), bit_c h hi, bi_, add1]
    have hand := and_j c (by omega) (W - 1 - i) (by omega)
    by_cases e : c / 2 ^ (W - 1 - i) % 2 = 1
    · have hv := (hV (rv W c - 2 ^ i) (Nat.lt_of_le_of_lt (Nat.sub_le _ _) hr) i (Or.inl hi)).1
      have hll := hL l i hl (Or.inl hi)
      rw [if_neg (fun q => by have := hand.mp q; omega), if_pos e, if_pos e, leg_c h hl (Or.inl hi), bi_, l8, pk_mul, nI_add, ckI (by omega) (by omega), clI (by omega), show mI C 64 (c * 8 + i) = _ from hw i hi e, nI_add, leg_c h hl (Or.inl hi), bi_, ckI (by omega) (by omega), let_, show mI C 64 (c * 8 + i) = _ from hw i hi e, nI_add]
      by_cases z : Lg px py l i + V (rv W c - 2 ^ i) i < m
      · rw [if_pos z, if_pos z, if_neg (nI_ge z (by omega))]
      · rw [if_neg z, if_neg z, if_pos (nI_le (by omega) (by omega))]
    · rw [if_pos (hand.mpr (by omega)), if_neg e, if_neg e]
  · intro n
    show f_X4_nextStop_9 (n + 1) _ _ _ _ (nI W) _ = _
    unfold f_X4_nextStop_9 mI
    rw [h.1, if_pos (nI_le (by omega) (by omega))]

def dInf (r q : Nat) (C R : mm_M) (j : Nat) : Prop := ∃ i s g, C.1 52 j = nI i ∧ i ≤ 1 ∧ C.1 53 j = nI s ∧ s ≤ 1 ∧ C.1 54 j = nI g ∧ g ≤ 20 ∧ 1 ≤ drBel q i s ∧ R.1 16 j = nI (drTop r i s g / Nat.gcd (drTop r i s g) (drBel q i s)) ∧ R.1 17 j = nI (drBel q i s / Nat.gcd (drTop r i s g) (drBel q i s)) ∧ (¬ R.1 15 j = 0 → 1 ≤ drTop r i s g)
theorem dTop_le {r i s g : Nat} (hr : r ≤ 40) (hg : g ≤ 20) : drTop r i s g ≤ 800 := by
  have hrg : r * g ≤ 40 * 20 := Nat.mul_le_mul hr hg
  unfold drTop
  split
  · omega
  · split <;> omega
theorem dBel_le {q i s : Nat} (hq : q ≤ 800) : drBel q i s ≤ 800 := by
  unfold drBel
  split
  · omega
  · split <;> omega
/-- a shop that was drawn is added, on both sides -/
theorem add_both {C R : mm_M} {r q j S : Nat} (hj : j < 40) (hr : r ≤ 40) (hq : q ≤ 800) (h4 : C.1 6 4 = nI r) (h5 : C.1 6 5 = nI q) (hd : dInf r q C R j) (ht : ¬ R.1 15 j = 0) (hC : stC C S (bD r)) (hR : stR_ R S (bD r)) (hS : S ≤ 32000 * bD r) : ∃ T C' R', T ≤ 800 * bD r ∧ (mm_bi (f_X2_partsBelow_6 (nI j) C) (fun r1 M1 => mm_bi (f_X2_partsAbove_6 (nI j) M1) (fun r2 M2 => f_X3_add_8 r1 r2 M2))) = some C' ∧ f_X12_addBack (nI j) R = some R' ∧ C'.1 = C.1 ∧ R'.1 = R.1 ∧ stC C' (S + T) (bD r) ∧ stR_ R' (S + T) (bD r) := by
  obtain ⟨i, s, g, d1, d2, d3, d4, d5, d6, d7, d8, d9, d10⟩ := hd
  have htop := d10 ht
  obtain ⟨l1', l2'⟩ := bD_le hr
  have hD0 : 0 < bD r := by
    unfold LC at l1'
    omega
  have hi0 : i ≠ 0 := fun z => by
    unfold drTop at htop
    rw [if_pos z] at htop
    omega
  have hb := bT_ok (q := q) (s := s) hi0 htop d6
  have tl := dTop_le (i := i) (s := s) hr d6
  have bl := dBel_le (i := i) (s := s) hq
  refine ⟨bT r q i s g, ?_⟩
  obtain ⟨C', c1, c2, c3⟩ := add_c hC hD0 hb hS l2' htop tl bl
  have hg0 : 0 < Nat.gcd (drTop r i s g) (drBel q i s) := Nat.gcd_pos_of_pos_right _ d7
  have e1' : drTop r i s g / Nat.gcd (drTop r i s g) (drBel q i s) * Nat.gcd (drTop r i s g) (drBel q i s) = drTop r i s g := Nat.div_mul_cancel (Nat.gcd_dvd_left _ _)
  have e2' : drBel q i s / Nat.gcd (drTop r i s g) (drBel q i s) * Nat.gcd (drTop r i s g) (drBel q i s) = drBel q i s := Nat.div_mul_cancel (Nat.gcd_dvd_right _ _)
  have q1 := Nat.div_le_self (drTop r i s g) (Nat.gcd (drTop r i s g) (drBel q i s))
  have q2 := Nat.div_le_self (drBel q i s) (Nat.gcd (drTop r i s g) (drBel q i s))
  have q3 : 1 ≤ drTop r i s g / Nat.gcd (drTop r i s g) (drBel q i s) := Nat.div_pos (Nat.le_of_dvd htop (Nat.gcd_dvd_left _ _)) hg0
  have hb' : drBel q i s / Nat.gcd (drTop r i s g) (drBel q i s) * bD r = bT r q i s g * (drTop r i s g / Nat.gcd (drTop r i s g) (drBel q i s)) := by
    refine Nat.eq_of_mul_eq_mul_right hg0 ?_
    rw [Nat.mul_right_comm, e2', Nat.mul_assoc, e1']
    exact hb
  obtain ⟨R', r1, r2, r3⟩ := add_r hj hR hD0 hb' hS l2' q3 (by omega) (by omega) d8 d9
  refine ⟨C', R', bT_le hq hr, ?_, r1, c2, r2, c3, r3⟩
  rw [below6 hj h5 d1 d3 d2 d4 hq, bi_, above6 hj h4 d1 d3 d5 d2 d4 hr d6, bi_]
  exact c1
theorem back_l {C1 R1 : mm_M} {r q n t f : Nat} {a : Int32} (hn : n ≤ 40) (ht1 : t ≤ 100) (hr : r ≤ 40) (hq : q ≤ 800) (h4 : C1.1 6 4 = nI r) (h5 : C1.1 6 5 = nI q) (h51 : C1.1 51 = R1.1 15) (hR2 : R1.1 0 2 = nI n) (hR43 : R1.1 0 43 = nI t) (hd : ∀ j, j < 40 → dInf r q C1 R1 j) (hf : f ≤ 1) (hT : f = 0 → ∀ C : mm_M, C.1 = C1.1 → TB t C R1) (ha : (1 < a) ↔ f = 1) (K : Int32 → mm_M → Option (Int64 × mm_M)) : ∀ (m i nR S : Nat) (C R : mm_M), i + m = n → m < nR → C.1 = C1.1 → R.1 = R1.1 → stC C S (bD r) → stR_ R S (bD r) → S ≤ i * (800 * bD r) → ∃ C' R' S', (∀ nC, f_X11_weighBack_33 (nC + m) (nI f) (nI i) C = f_X11_weighBack_33 nC (nI f) (nI n) C') ∧ f_X12_back_58 K nR a (nI i) R = K a R' ∧ C'.1 = C1.1 ∧ R'.1 = R1.1 ∧ stC C' S' (bD r) ∧ stR_ R' S' (bD r) := by
  intro m
  induction m with
  | zero =>
    intro i nR S C R hi hnR hC hR sC sR hS
    obtain ⟨nR, rfl⟩ : ∃ q, nR = q + 1 := ⟨nR - 1, by omega⟩
    obtain rfl : i = n := by omega
    refine ⟨C, R, S, fun _ => rfl, ?_, hC, hR, sC, sR⟩
    unfold f_X12_back_58 mI
    rw [hR, hR2, if_pos (nI_le (by omega) (by omega))]
  | succ m ih =>
    intro i nR S C R hi hnR hC hR sC sR hS
    obtain ⟨nR, rfl⟩ : ∃ q, nR = q + 1 := ⟨nR - 1, by omega⟩
    have hi40 : i < 40 := by omega
    have hS2 : S ≤ 32000 * bD r := by
      have : i * (800 * bD r) ≤ 40 * (800 * bD r) := Nat.mul_le_mul_right _ (by omega)
      omega
    -- the reference, up to the question whether it is added
    have hlat := lat_r (R := R) (t := t) (by rw [hR]; exact hR43) ht1 a (nI i) (f_X12_back_114 (f_X12_back_58 K nR))
    have hR0 : f_X12_back_58 K (nR + 1) a (nI i) R = f_X12_back_134 (f_X12_back_58 K nR) a (nI i) (slF (R1.1 36) (R1.1 28) (R1.1 32) (nI i) t) R := by
      conv => lhs; unfold f_X12_back_58
      unfold mI
      rw [hR, hR2, if_neg (nI_ge (by omega) (by omega)), show f_X12_back_71 (f_X12_back_114 (f_X12_back_58 K nR)) mm_fu a (nI i) (-1) 0 R = _ from hlat, hR]
      unfold f_X12_back_114 f_X12_back_133 mI
      rcases la_sl (R1.1 36) (R1.1 28) (R1.1 32) (nI i) t ht1 with ⟨z1, z2⟩ | ⟨k, k1, k2, k3⟩
      · rw [z1, z2, if_pos m1lt]
      · rw [k2, k3, if_neg (nI_pos (by omega)), ckI (by omega) (by omega), clI (by omega), hR]
        split <;> rfl
    have hC0 : ∀ nC, f_X11_weighBack_33 (nC + (m + 1)) (nI f) (nI i) C = (if R1.1 15 i = 0 then f_X11_weighBack_33 (nC + m) (nI f) (nI (i + 1)) C else if f = 0 ∧ slF (R1.1 36) (R1.1 28) (R1.1 32) (nI i) t = 0 then f_X11_weighBack_33 (nC + m) (nI f) (nI (i + 1)) C else mm_bv (mm_bi (f_X2_partsBelow_6 (nI i) C) (fun r1 M1 => mm_bi (f_X2_partsAbove_6 (nI i) M1) (fun r2 M2 => f_X3_add_8 r1 r2 M2))) (fun M3 => f_X11_weighBack_33 (nC + m) (nI f) (nI (i + 1)) M3)) := by
      intro nC
      have e66 : ∀ X : mm_M → Option mm_M, (mm_bi (f_X2_partsBelow_6 (nI i) C) (fun r1 M1 => mm_bi (f_X2_partsAbove_6 (nI i) M1) (fun r2 M2 => mm_bv (f_X3_add_8 r1 r2 M2) (fun M3 => X M3)))) = mm_bv (mm_bi (f_X2_partsBelow_6 (nI i) C) (fun r1 M1 => mm_bi (f_X2_partsAbove_6 (nI i) M1) (fun r2 M2 => f_X3_add_8 r1 r2 M2))) X := by
        intro X
        cases f_X2_partsBelow_6 (nI i) C with
        | none => rfl
        | some p =>
          rw [bi_, bi_]
          cases f_X2_partsAbove_6 (nI i) p.2 with
          | none => rfl
          | some p2 => rfl
      rw [show nC + (m + 1) = (nC + m) + 1 by omega]
      conv => lhs; unfold f_X11_weighBack_33 f_X11_weighBack_89 f_X11_weighBack_66
      unfold f_X11_weighBack_89 mI
      rw [if_neg (show ¬ (40 : Int32) ≤ nI i from nI_ge (b := 40) hi40 (by omega)), ckI hi40 (by omega), clI (by omega), hC, h51, add1]
      by_cases z1 : R1.1 15 i = 0
      · rw [if_pos z1, if_pos z1]
      · rw [if_neg z1, if_neg z1]
        rcases (show f = 0 ∨ f = 1 by omega) with rfl | rfl
        · rw [if_pos (show nI 0 = 0 from rfl), lgs_c (hT rfl C hC) (nI i), bi_, e66]
          by_cases z2 : slF (R1.1 36) (R1.1 28) (R1.1 32) (nI i) t = 0
          · rw [if_pos z2, if_pos ⟨rfl, z2⟩]
          · rw [if_neg z2, if_neg (fun y => z2 y.2)]
        · rw [if_neg (show ¬ nI 1 = 0 from n10), if_neg (fun y => absurd y.1 (by omega)), e66]
    have keep : (∀ nC, f_X11_weighBack_33 (nC + (m + 1)) (nI f) (nI i) C = f_X11_weighBack_33 (nC + m) (nI f) (nI (i + 1)) C) → f_X12_back_58 K (nR + 1) a (nI i) R = f_X12_back_58 K nR a (nI (i + 1)) R → ∃ C' R' S', (∀ nC, f_X11_weighBack_33 (nC + (m + 1)) (nI f) (nI i) C = f_X11_weighBack_33 nC (nI f) (nI n) C') ∧ f_X12_back_58 K (nR + 1) a (nI i) R = K a R' ∧ C'.1 = C1.1 ∧ R'.1 = R1.1 ∧ stC C' S' (bD r) ∧ stR_ R' S' (bD r) := by
      intro y1 y2
      obtain ⟨C', R', S', g1, g2, g3⟩ := ih (i + 1) nR S C R (by omega) (by omega) hC hR sC sR (Nat.le_trans hS (Nat.mul_le_mul_right _ (by omega)))
      exact ⟨C', R', S', fun nC => by rw [y1]; exact g1 nC, by rw [y2]; exact g2, g3⟩
    unfold f_X12_back_134 f_X12_back_155 f_X12_back_160 mI at hR0
    rw [ckI hi40 (by omega), clI (by omega), hR, add1] at hR0
    by_cases z1 : R1.1 15 i = 0
    · refine keep (fun nC => by rw [hC0, if_pos z1]) ?_
      rw [hR0, if_pos z1]
    · rw [if_neg z1] at hR0
      have addit : f_X12_back_58 K (nR + 1) a (nI i) R = mm_bv (f_X12_addBack (nI i) R) (fun M1 => f_X12_back_58 K nR a (nI (i + 1)) M1) → ¬ (f = 0 ∧ slF (R1.1 36) (R1.1 28) (R1.1 32) (nI i) t = 0) → ∃ C' R' S', (∀ nC, f_X11_weighBack_33 (nC + (m + 1)) (nI f) (nI i) C = f_X11_weighBack_33 nC (nI f) (nI n) C') ∧ f_X12_back_58 K (nR + 1) a (nI i) R = K a R' ∧ C'.1 = C1.1 ∧ R'.1 = R1.1 ∧ stC C' S' (bD r) ∧ stR_ R' S' (bD r) := by
        intro y1 y2
        obtain ⟨T, C2, R2, t1, t2, t3, t4, t5, t6, t7⟩ := add_both (C := C) (R := R) hi40 hr hq (by rw [hC]; exact h4) (by rw [hC]; exact h5) (by unfold dInf; rw [hC, hR]; exact hd i hi40) (by rw [hR]; exact z1) sC sR hS2
        obtain ⟨C', R', S', g1, g2, g3⟩ := ih (i + 1) nR (S + T) C2 R2 (by omega) (by omega) (t4.trans hC) (t5.trans hR) t6 t7 (by rw [Nat.succ_mul]; omega)
        refine ⟨C', R', S', fun nC => ?_, ?_, g3⟩
        · rw [hC0, if_neg z1, if_neg y2, t2, bv_]
          exact g1 nC
        · rw [y1, t3, bv_]
          exact g2
      by_cases z2 : 1 < a
      · rw [if_pos z2] at hR0
        exact addit hR0 (fun y => absurd (ha.mp z2) (by omega))
      · rw [if_neg z2] at hR0
        have f0 : f = 0 := by
          rcases (show f = 0 ∨ f = 1 by omega) with y | y
          · exact y
          · exact absurd (ha.mpr y) z2
        by_cases z3 : slF (R1.1 36) (R1.1 28) (R1.1 32) (nI i) t = 0
        · rw [if_pos z3] at hR0
          exact keep (fun nC => by rw [hC0, if_neg z1, if_pos ⟨f0, z3⟩]) hR0
        · rw [if_neg z3] at hR0
          exact addit hR0 (fun y => z3 y.2)
/-- behind the shops nothing is drawn -/
theorem back_t {C : mm_M} {x : Int32} : ∀ (m i nC : Nat), i + m = 40 → m < nC → (∀ j, i ≤ j → j < 40 → C.1 51 j = 0) → f_X11_weighBack_33 nC x (nI i) C = some C := by
  intro m
  induction m with
  | zero =>
    intro i nC hi hn h
    obtain ⟨nC, rfl⟩ : ∃ q, nC = q + 1 := ⟨nC - 1, by omega⟩
    obtain rfl : i = 40 := by omega
    unfold f_X11_weighBack_33
    rw [if_pos (show (40 : Int32) ≤ nI 40 by decide +kernel)]
  | succ m ih =>
    intro i nC hi hn h
    obtain ⟨nC, rfl⟩ : ∃ q, nC = q + 1 := ⟨nC - 1, by omega⟩
    unfold f_X11_weighBack_33 f_X11_weighBack_89 mI
    rw [if_neg (show ¬ (40 : Int32) ≤ nI i from nI_ge (b := 40) (by omega) (by omega)), ckI (by omega) (by omega), clI (by omega), if_pos (h i (by omega) (by omega)), add1]
    exact ih (i + 1) nC (by omega) (by omega) (fun j h1 h2 => h j (by omega) h2)
theorem thr_ok (R : mm_M) : f_X12_thrown R = some (R.1 0 0, R) := rfl
theorem ok_back (a : Int32) : op_b Rel a := by
  intro C R h
  have h' := h
  obtain ⟨⟨⟨bd, bn, bt, bu, bv, bw, bl⟩, ⟨sa, sb, sc, sd, se, sf, sg, sh⟩, ⟨ka, kb, kc, kd, ke⟩, ⟨ta, tb, tc, td, te, tf, tg⟩, ⟨ra, rb, rc, rd, re_, rf⟩, ⟨qa, qb, qc, qd, qe⟩⟩, hr, hl, hw, d, n, t, u, v, w, ⟨⟨⟨id1, id2⟩, ⟨in1, in2⟩, ⟨it1, it2⟩, ⟨iu1, iu2⟩, ⟨iv1, iv2⟩, ⟨iw1, iw2⟩, ilv⟩, jS, jK, jT, jR, jC, jB, jM, jD, jL⟩, hrule, hhome⟩ := h'
  unfold b_back f_X12_back
  rcases hw.2 with ⟨z1, z2⟩ | ⟨z1, z2, r, q, d1, d2, d3, d4, d5⟩
  · rw [if_pos (show mI C 6 6 = 0 from z1), if_pos (show mI R 0 17 = 0 from z2)]
    refine ⟨(1, 0, C), 0, sI R 0 0 1, sI R 0 0 1, rfl, ?_, ?_, fun y => absurd y n10, rel_t h 1⟩
    · unfold f_X12_back_26 mI
      rw [let_]
      simp only [s1, s2, l1, l2, upd_at, Nat.reduceEqDiff, reduceIte]
      rw [if_neg (by decide +kernel)]
    · rw [thr_ok]
      simp only [s1, s2, l1, l2, upd_at, Nat.reduceEqDiff, reduceIte]
  · rw [if_neg (show ¬ mI C 6 6 = 0 from z1), if_neg (show ¬ mI R 0 17 = 0 from z2)]
    rcases ix_of a (n := 4) (by omega) with ⟨k, hk, rfl⟩ | ha
    · rw [if_neg (nI_pos (by omega)), if_pos (show nI k ≤ 3 from nI_le (b := 3) (by omega) (by omega)), in_jx (n := 3) R (by omega) rfl hk, bi_, if_neg n10]
      have h0 := rel_t h 0
      have kt : ∀ z, z ≠ 0 → (sI R 0 0 0).1 z = R.1 z := fun z hz => by simp only [s1, s2, l1, l2, upd_at, Nat.reduceEqDiff, reduceIte, hz]
      have kt0 : ∀ j, j ≠ 0 → (sI R 0 0 0).1 0 j = R.1 0 j := fun j hj => by simp only [s1, s2, l1, l2, upd_at, Nat.reduceEqDiff, reduceIte, hj]
      have kt00 : (sI R 0 0 0).1 0 0 = 0 := by simp only [s1, s2, l1, l2, upd_at, Nat.reduceEqDiff, reduceIte]
      have hb26 : f_X12_back_26 (nI k) 0 R = mm_bv (f_X12_weigh ((sI R 0 0 0).1 0 1) (sI R 0 0 0)) (fun M2 => f_X12_back_58 f_X12_back_166 mm_fu (nI k) 0 (sL (sL M2 0 24 0) 0 25 1)) := by
        unfold f_X12_back_26 mI
        rw [let_, kt00, if_pos (by decide +kernel)]
        rfl
      rw [hb26]
      generalize sI R 0 0 0 = R0 at h0 kt kt0 kt00 ⊢
      have in1' : R0.1 0 2 = nI n := by rw [kt0 2 (by omega)]; exact in1
      have it1' : R0.1 0 43 = nI t := by rw [kt0 43 (by omega)]; exact it1
      obtain ⟨C1, R1, g1, g2, g3, g4, g5, g6, _, _⟩ := weigh_two h0 (R0.1 0 1) in1' in2 it1' it2 (Nat.le_refl t)
      rw [g2, bv_]
      have bd' : C.1 0 16 = R0.1 0 1 := by rw [kt0 1 (by omega)]; exact bd
      -- the class's memory before its loop: X, with f = 0 weighed, with f = 1 not
      have main : ∀ (f : Nat) (X : mm_M), f ≤ 1 → ((1 : Int32) < nI k ↔ f = 1) → kC C X → (f = 0 → X = C1) → ∃ C' S, f_X11_weighBack_22 (nI f) X = some C' ∧ C'.1 = X.1 ∧ stC C' S (bD r) ∧ ∃ R', f_X12_back_58 f_X12_back_166 mm_fu (nI k) 0 (sL (sL R1 0 24 0) 0 25 1) = f_X12_back_166 (nI k) R' ∧ R'.1 = R1.1 ∧ stR_ R' S (bD r) := by
        intro f X hf hk1 kX hX
        obtain ⟨l1', l2'⟩ := bD_le d3
        have hD0 : 0 < bD r := by
          unfold LC at l1'
          omega
        have s0 : 0 / Nat.gcd 0 (bD r) = 0 ∧ bD r / Nat.gcd 0 (bD r) = 1 := by
          rw [Nat.gcd_zero_left]
          exact ⟨Nat.zero_div _, Nat.div_self hD0⟩
        have hb8 := become8 X (a := 0) (b := 1) (by omega) (by omega) (by omega)
        have hstC : stC (sL (sL X 8 0 (lN (0 / Nat.gcd 0 1))) 8 1 (lN (1 / Nat.gcd 0 1))) 0 (bD r) := by
          unfold stC
          rw [s0.1, s0.2]
          simp only [l2, updL_at, reduceIte, Nat.reduceEqDiff]
          exact ⟨rfl, rfl⟩
        have hstR : stR_ (sL (sL R1 0 24 0) 0 25 1) 0 (bD r) := by
          unfold stR_
          rw [s0.1, s0.2]
          simp only [l2, updL_at, reduceIte, Nat.reduceEqDiff]
          exact ⟨rfl, rfl⟩
        obtain ⟨C', R', S', e1', e2', e3', e4', e5', e6'⟩ := back_l (C1 := X) (R1 := R1) (r := r) (q := q) (n := n) (t := t) (f := f) (a := nI k) in2 it2 d3 d4 (by rw [kX 6 rfl]; exact d1) (by rw [kX 6 rfl]; exact d2) (by rw [kX 51 rfl, g4.1 15 rfl, kt 15 (by omega)]; exact rf) (by rw [g4.2 2 rfl]; exact in1') (by rw [g4.2 43 rfl]; exact it1') (fun j hj => by
            unfold dInf
            rw [kX 52 rfl, kX 53 rfl, kX 54 rfl, g4.1 16 rfl, g4.1 17 rfl, g4.1 15 rfl, kt 16 (by omega), kt 17 (by omega), kt 15 (by omega)]
            exact d5 j hj) hf (fun f0 Y hY => by
            unfold TB
            rw [hY, hX f0]
            refine ⟨by rw [g3 4 rfl]; exact bt.trans it1, by rw [g4.2 43 rfl]; exact it1', it2, fun j hj => (g5 j hj).1, ?_, ?_, ?_, fun j hj => ?_⟩
            · rw [g3 39 rfl, g4.1 28 rfl, kt 28 (by omega)]; exact ta
            · rw [g3 41 rfl, g4.1 30 rfl, kt 30 (by omega)]; exact tc
            · rw [g3 43 rfl, g4.1 32 rfl, kt 32 (by omega)]; exact te
            · rw [g4.1 32 rfl, kt 32 (by omega)]
              exact (jT.1 j hj).choose_spec.choose_spec.choose_spec.2.2.2.2.2.2.2.2.2.1) hk1 f_X12_back_166 n 0 mm_fu 0 (sL (sL X 8 0 (lN (0 / Nat.gcd 0 1))) 8 1 (lN (1 / Nat.gcd 0 1))) (sL (sL R1 0 24 0) 0 25 1) (by omega) (fuGt (by omega)) rfl rfl hstC hstR (by omega)
        refine ⟨C', S', ?_, e3', e5', R', e2', e4', e6'⟩
        unfold f_X11_weighBack_22
        rw [show f_X3_become_8 0 1 X = _ from hb8, bv_]
        have hfu : mm_fu = 100000 := rfl
        have e7' := e1' (mm_fu - n)
        rw [show mm_fu - n + n = mm_fu by omega] at e7'
        rw [show f_X11_weighBack_33 mm_fu (nI f) 0 (sL (sL X 8 0 (lN (0 / Nat.gcd 0 1))) 8 1 (lN (1 / Nat.gcd 0 1))) = _ from e7']
        refine back_t (40 - n) n _ (by omega) (by omega) (fun j h1 h2 => ?_)
        rw [e3', kX 51 rfl, rf]
        exact hrule.1 j h1 h2
      have fin : ∀ (f : Nat) (X : mm_M), f ≤ 1 → ((1 : Int32) < nI k ↔ f = 1) → kC C X → (f = 0 → X = C1) → f_X11_weighBack (if nI k < 2 then 0 else 1) C = f_X11_weighBack_22 (nI f) X → ∃ (q : Int32 × Int64 × mm_M) (r : Int64) (MR1 MR2 : mm_M), mm_bv (f_X11_weighBack (if nI k < 2 then 0 else 1) C) (fun M' => some (0, if nI k = 0 then mL M' 8 0 else if nI k = 2 then mL M' 8 0 else mL M' 8 1, M')) = some q ∧ f_X12_back_58 f_X12_back_166 mm_fu (nI k) 0 (sL (sL R1 0 24 0) 0 25 1) = some (r, MR1) ∧ f_X12_thrown MR1 = some (q.1, MR2) ∧ (q.1 = 0 → q.2.1 = r) ∧ Rel q.2.2 MR2 := by
        intro f X hf hk1 kX hX hw33
        obtain ⟨C', S, w1, w2, w3, R', w4, w5, w6⟩ := main f X hf hk1 kX hX
        rw [hw33, w1, bv_, w4]
        have hrel : Rel C' R' := rel_k h0 (kC_t kX (fun a _ => by rw [w2])) (kR_t g4 ⟨fun a _ => by rw [w5], fun j _ => by rw [w5]⟩)
        have hthr : R'.1 0 0 = 0 := by rw [w5, g4.2 0 rfl, kt00]
        have h166 : f_X12_back_166 (nI k) R' = some (if k = 0 ∨ k = 2 then lN (S / Nat.gcd S (bD r)) else lN (bD r / Nat.gcd S (bD r)), R') := by
          unfold f_X12_back_166 mL
          rw [w6.1, w6.2, show nI k - nI k / 2 * 2 = nI (k % 2) from pk_rem (d := 2) (by omega) (by omega) (by omega)]
          rcases (show k = 0 ∨ k = 1 ∨ k = 2 ∨ k = 3 by omega) with rfl | rfl | rfl | rfl
          · rfl
          · rfl
          · rfl
          · rfl
        rw [h166]
        refine ⟨_, _, R', R', rfl, rfl, by rw [thr_ok, hthr], fun _ => ?_, hrel⟩
        show (if nI k = 0 then mL C' 8 0 else if nI k = 2 then mL C' 8 0 else mL C' 8 1) = _
        unfold mL
        rw [w3.1, w3.2]
        rcases (show k = 0 ∨ k = 1 ∨ k = 2 ∨ k = 3 by omega) with rfl | rfl | rfl | rfl
        · rw [if_pos (show nI 0 = 0 from rfl), if_pos (Or.inl rfl)]
        · rw [if_neg (show ¬ nI 1 = 0 from n10), if_neg (show ¬ nI 1 = 2 from ne_ (a := 1) (b := 2) (by omega) (by omega) (by omega)), if_neg (by omega)]
        · rw [if_neg (show ¬ nI 2 = 0 from ne_ (a := 2) (b := 0) (by omega) (by omega) (by omega)), if_pos (show nI 2 = 2 from rfl), if_pos (Or.inr rfl)]
        · rw [if_neg (show ¬ nI 3 = 0 from ne_ (a := 3) (b := 0) (by omega) (by omega) (by omega)), if_neg (show ¬ nI 3 = 2 from ne_ (a := 3) (b := 2) (by omega) (by omega) (by omega)), if_neg (by omega)]
      by_cases k2 : k < 2
      · refine fin 0 C1 (by omega) (iff_of_false (show ¬ (1 : Int32) < nI k from nI_nlt (a := 1) (by omega) (by omega)) (by omega)) g3 (fun _ => rfl) ?_
        rw [if_pos (show nI k < 2 from nI_lt (b := 2) k2 (by omega))]
        unfold f_X11_weighBack mI
        rw [if_pos rfl, bd', bt.trans it1, g1, bv_]
        rfl
      · refine fin 1 C (by omega) (iff_of_true (show (1 : Int32) < nI k from nI_lt (a := 1) (by omega) (by omega)) rfl) (kC_r C) (fun y => absurd y (by omega)) ?_
        rw [if_neg (show ¬ nI k < 2 from nI_nlt (b := 2) (by omega) (by omega))]
        unfold f_X11_weighBack
        rw [if_neg n10]
        rfl
    · rw [in_ix (n := 3) R (by omega) rfl ha, bi_, if_pos rfl]
      have e : (if a < 0 then some ((2 : Int32), (0 : Int64), C) else if a ≤ 3 then mm_bv (f_X11_weighBack (if a < 2 then 0 else 1) C) (fun M' => some (0, if a = 0 then mL M' 8 0 else if a = 2 then mL M' 8 0 else mL M' 8 1, M')) else some (2, 0, C)) = some (2, 0, C) := by
        by_cases a0 : a < 0
        · rw [if_pos a0]
        · rw [if_neg a0, if_neg (show ¬ a ≤ 3 by
            have := ha.resolve_left a0
            rw [Int32.le_iff_toInt_le] at this ⊢
            have e4 : (nI 4).toInt = 4 := by decide +kernel
            have e3 : (3 : Int32).toInt = 3 := rfl
            omega)]
      rw [e]
      refine ⟨(2, 0, C), 0, sI R 0 0 2, sI R 0 0 2, rfl, ?_, ?_, fun y => absurd y (show ¬ (2 : Int32) = 0 by decide +kernel), rel_t h 2⟩
      · unfold f_X12_back_26 mI
        rw [let_]
        simp only [s1, s2, l1, l2, upd_at, Nat.reduceEqDiff, reduceIte]
        rw [if_neg (by decide +kernel)]
      · rw [thr_ok]
        simp only [s1, s2, l1, l2, upd_at, Nat.reduceEqDiff, reduceIte]

theorem gcd_step (a b : Nat) : Nat.gcd a b = Nat.gcd b (a % b) := by
  rw [Nat.gcd_comm a b, Nat.gcd_rec b a, Nat.gcd_comm]
theorem nzl {α : Type} {b : Nat} (X : Option α) (h0 : 0 < b) (hb : b < 2 ^ 63) : mm_nzL (lN b) X = X := by
  unfold mm_nzL
  rw [if_neg (fun q => by
    have := (pk_lEQ (a := b) (b := 0) hb (by decide)).mp q
    omega)]
theorem lz (b : Nat) (hb : b < 2 ^ 63) : (lg_cmp (lN b) (0 : Int64) = 0) ↔ b = 0 := by
  rw [lg_cmp_eq]
  exact pk_lEQ (a := b) (b := 0) hb (by decide)
theorem gcd_c : ∀ (k a b q n : Nat) (M : mm_M), b < 2 ^ k → a < 2 ^ 63 → k ≤ 49 → q + 2 * k ≤ 100 → 2 * k < n → f_X3_commonDivisor_9 n (lN a) (lN b) (nI q) M = some (lN (Nat.gcd a b), M) := by
  intro k
  have hend : ∀ (a q n : Nat) (M : mm_M), 0 < n → f_X3_commonDivisor_9 n (lN a) (lN 0) (nI q) M = some (lN (Nat.gcd a 0), M) := by
    intro a q n M hn
    obtain ⟨n, rfl⟩ : ∃ q, n = q + 1 := ⟨n - 1, by omega⟩
    unfold f_X3_commonDivisor_9
    rw [if_pos ((lz 0 (by decide)).mpr rfl), Nat.gcd_zero_right]
    split <;> rfl
  have hst : ∀ (a b q n : Nat) (M : mm_M), 0 < b → b < 2 ^ 63 → a < 2 ^ 63 → q < 100 → f_X3_commonDivisor_9 (n + 1) (lN a) (lN b) (nI q) M = f_X3_commonDivisor_9 n (lN b) (lN (a % b)) (nI (q + 1)) M := by
    intro a b q n M h0 hb ha hq
    conv => lhs; unfold f_X3_commonDivisor_9
    rw [if_neg (show ¬ (100 : Int32) ≤ nI q from nI_ge (b := 100) hq (by decide)), if_neg (fun e => by have := (lz b hb).mp e; omega), nzl _ h0 hb, let_, pk_lRem ha h0 hb, add1]
  induction k with
  | zero =>
    intro a b q n M h1 h2 h3 h4 h5
    obtain rfl : b = 0 := by omega
    exact hend a q n M (by omega)
  | succ k ih =>
    intro a b q n M h1 h2 h3 h4 h5
    have h6 : 2 ^ (k + 1) ≤ 2 ^ 50 := Nat.pow_le_pow_right (by decide) (by omega)
    by_cases b0 : b = 0
    · subst b0
      exact hend a q n M (by omega)
    · obtain ⟨n, rfl⟩ : ∃ q, n = q + 2 := ⟨n - 2, by omega⟩
      rw [hst a b q (n + 1) M (by omega) (by omega) h2 (by omega), gcd_step]
      have hc := Nat.mod_lt a (show b > 0 by omega)
      generalize a % b = c at hc ⊢
      by_cases c0 : c = 0
      · subst c0
        exact hend b (q + 1) (n + 1) M (by omega)
      · rw [hst b c (q + 1) n M (by omega) (by omega) (by omega) (by omega), gcd_step]
        refine ih c (b % c) (q + 1 + 1) n M ?_ (by omega) (by omega) (by omega) (by omega)
        have e1 : b % c = (b - c) % c := Nat.mod_eq_sub_mod (by omega)
        have e2 := Nat.mod_le (b - c) c
        have e3 := Nat.mod_lt b (show c > 0 by omega)
        rw [Nat.pow_succ] at h1
        omega
theorem gcd_r : ∀ (k a b n : Nat) (M : mm_M), b < 2 ^ k → a < 2 ^ 63 → k ≤ 62 → 2 * k < n → f_X12_divisor_6 n (lN a) (lN b) M = some (lN (Nat.gcd a b), M) := by
  intro k
  have hend : ∀ (a n : Nat) (M : mm_M), 0 < n → f_X12_divisor_6 n (lN a) (lN 0) M = some (lN (Nat.gcd a 0), M) := by
    intro a n M hn
    obtain ⟨n, rfl⟩ : ∃ q, n = q + 1 := ⟨n - 1, by omega⟩
    unfold f_X12_divisor_6
    rw [if_pos ((lz 0 (by decide)).mpr rfl), Nat.gcd_zero_right]
  have hst : ∀ (a b n : Nat) (M : mm_M), 0 < b → b < 2 ^ 63 → a < 2 ^ 63 → f_X12_divisor_6 (n + 1) (lN a) (lN b) M = f_X12_divisor_6 n (lN b) (lN (a % b)) M := by
    intro a b n M h0 hb ha
    conv => lhs; unfold f_X12_divisor_6
    rw [if_neg (fun e => by have := (lz b hb).mp e; omega), nzl _ h0 hb, let_, pk_lRem ha h0 hb]
  induction k with
  | zero =>
    intro a b n M h1 h2 h3 h5
    obtain rfl : b = 0 := by omega
    exact hend a n M (by omega)
  | succ k ih =>
    intro a b n M h1 h2 h3 h5
    have h6 : 2 ^ (k + 1) ≤ 2 ^ 62 := Nat.pow_le_pow_right (by decide) (by omega)
    by_cases b0 : b = 0
    · subst b0
      exact hend a n M (by omega)
    · obtain ⟨n, rfl⟩ : ∃ q, n = q + 2 := ⟨n - 2, by omega⟩
      rw [hst a b (n + 1) M (by omega) (by omega) h2, gcd_step]
      have hc := Nat.mod_lt a (show b > 0 by omega)
      generalize a % b = c at hc ⊢
      by_cases c0 : c = 0
      · subst c0
        exact hend b (n + 1) M (by omega)
      · rw [hst b c n M (by omega) (by omega) (by omega), gcd_step]
        refine ih c (b % c) n M ?_ (by omega) (by omega) (by omega)
        have e1 : b % c = (b - c) % c := Nat.mod_eq_sub_mod (by omega)
        have e2 := Nat.mod_le (b - c) c
        have e3 := Nat.mod_lt b (show c > 0 by omega)
        rw [Nat.pow_succ] at h1
        omega
theorem become8 {a b : Nat} (M : mm_M) (ha : a < 2 ^ 62) (hb : b < 2 ^ 49) (h0 : 0 < b) : f_X3_become_8 (lN a) (lN b) M = some (sL (sL M 8 0 (lN (a / Nat.gcd a b))) 8 1 (lN (b / Nat.gcd a b))) := by
  have hg : 0 < Nat.gcd a b := Nat.gcd_pos_of_pos_right a h0
  have hg2 : Nat.gcd a b ≤ b := Nat.le_of_dvd h0 (Nat.gcd_dvd_right a b)
  unfold f_X3_become_8 f_X3_commonDivisor
  rw [show (0 : Int32) = nI 0 from rfl, gcd_c 49 a b 0 mm_fu M hb (by omega) (by omega) (by omega) (fuGt (by omega)), bi_, show nI 0 = (0 : Int32) from rfl, if_pos (show 0 ≤ lg_cmp (lN (Nat.gcd a b)) (1 : Int64) from (lg_cmp_ge _ _).mpr ((pk_lLE (a := 1) (by decide) (by omega)).mpr hg))]
  unfold f_X3_become_8_17
  rw [nzl _ hg (by omega), let_, nzl _ hg (by omega), let_, pk_lDiv (by omega) hg (by omega), pk_lDiv (by omega) hg (by omega)]
theorem above6 {C : mm_M} {j r i s g : Nat} (hj : j < 40) (h1 : C.1 6 4 = nI r) (h2 : C.1 52 j = nI i) (h3 : C.1 53 j = nI s) (h4 : C.1 54 j = nI g) (hi : i ≤ 1) (hs : s ≤ 1) (hr : r ≤ 40) (hg : g ≤ 20) : f_X2_partsAbove_6 (nI j) C = some (lN (drTop r i s g), C) := by
  have hrg : r * g ≤ 40 * 20 := Nat.mul_le_mul hr hg
  unfold f_X2_partsAbove_6 mI drTop
  simp only [if_neg (nI_pos (show j < 2 ^ 31 by omega)), if_neg (show ¬ (40 : Int32) ≤ nI j from nI_ge (b := 40) hj (by decide)), ckI hj (show 40 ≤ 100000 by omega), clI (show j < 2 ^ 31 by omega), h1, h2, h3, h4, pk_mul, nI_l (show r * g < 2 ^ 31 by omega)]
  rcases (show i = 0 ∨ i = 1 by omega) with rfl | rfl
  · rfl
  · rcases (show s = 0 ∨ s = 1 by omega) with rfl | rfl
    · rfl
    · rfl
theorem below6 {C : mm_M} {j q i s : Nat} (hj : j < 40) (h1 : C.1 6 5 = nI q) (h2 : C.1 52 j = nI i) (h3 : C.1 53 j = nI s) (hi : i ≤ 1) (hs : s ≤ 1) (hq : q ≤ 800) : f_X2_partsBelow_6 (nI j) C = some (lN (drBel q i s), C) := by
  unfold f_X2_partsBelow_6 f_X2_isOther_6 mI drBel
  simp only [if_neg (nI_pos (show j < 2 ^ 31 by omega)), if_neg (show ¬ (40 : Int32) ≤ nI j from nI_ge (b := 40) hj (by decide)), ckI hj (show 40 ≤ 100000 by omega), clI (show j < 2 ^ 31 by omega), h2, h3]
  rcases (show i = 0 ∨ i = 1 by omega) with rfl | rfl
  · rfl
  · rcases (show s = 0 ∨ s = 1 by omega) with rfl | rfl
    · show some ((C.1 6 5).toInt64, C) = some (lN q, C)
      rw [h1, nI_l (by omega)]
    · rfl
theorem lN_32 {n : Nat} (h : n < 2 ^ 31) : (lN n).toInt32 = nI n := by
  rw [← nI_l h, Int32.toInt32_toInt64]
theorem rel_sl {C R : mm_M} (h : Rel C R) (o i : Nat) (x : Int64) : Rel (sL C o i x) R := h
theorem ok_drawn (a b : Int32) : op_i Rel (f_X11_drawn a b) (f_X12_drawn a b) := by
  intro C R h
  unfold f_X12_drawn
  rw [let_]
  have h := rel_t h 0
  generalize sI R 0 0 0 = R at h ⊢
  show ends _ _
  unfold f_X11_drawn
  try unfold mI
  have h' := h
  obtain ⟨⟨⟨bd, bn, bt, bu, bv, bw, bl⟩, ⟨sa, sb, sc, sd, se, sf, sg, sh⟩, ⟨ka, kb, kc, kd, ke⟩, ⟨ta, tb, tc, td, te, tf, tg⟩, ⟨ra, rb, rc, rd, re_, rf⟩, ⟨qa, qb, qc, qd, qe⟩⟩, hr, hl, hw, d, n, t, u, v, w, ⟨⟨⟨id1, id2⟩, ⟨in1, in2⟩, ⟨it1, it2⟩, ⟨iu1, iu2⟩, ⟨iv1, iv2⟩, ⟨iw1, iw2⟩, ilv⟩, jS, jK, jT, jR, jC, jB, jM, jD, jL⟩, hrule, hhome⟩ := h'
  unfold f_X11_drawn_43
  simp only [bi_id]
  have hn := bn.trans in1
  rcases hw.2 with ⟨z1, z2⟩ | ⟨z1, z2, r, q, d1, d2, d3, d4, d5⟩
  · rw [if_pos z1, if_pos z2]
    exact ref5 h
  · rw [if_neg z1, if_neg z2]
    rcases ix_of a (n := n) (by omega) with ⟨j, hj, rfl⟩ | ha
    · obtain ⟨i, s, g, p1, p2, p3, p4, p5, p6, p7, p8, p9, _⟩ := d5 j (by omega)
      rw [has_y hn in2 hj, isShop_y in1 in2 hj, bi_, bi_, if_neg n10, if_neg n10]
      have ht : drTop r i s g ≤ 800 := by
        have hrg : r * g ≤ 40 * 20 := Nat.mul_le_mul d3 p6
        unfold drTop
        split
        · omega
        · split <;> omega
      have hbl : drBel q i s ≤ 800 := by
        unfold drBel
        split
        · omega
        · split <;> omega
      have hq1 := Nat.div_le_self (drTop r i s g) (Nat.gcd (drTop r i s g) (drBel q i s))
      have hq2 := Nat.div_le_self (drBel q i s) (Nat.gcd (drTop r i s g) (drBel q i s))
      rcases ix_of b (n := 3) (by omega) with ⟨k, hk, rfl⟩ | hb
      · rw [if_neg (nI_pos (show k < 2 ^ 31 by omega)), if_pos (show nI k ≤ 2 from nI_le (b := 2) (by omega) (by decide)), in_jx (n := 2) R (by omega) rfl hk, bi_, if_neg n10]
        simp only [above6 (show j < 40 by omega) d1 p1 p3 p5 p2 p4 d3 p6, below6 (show j < 40 by omega) d2 p1 p3 p2 p4 d4, bi_, bv_, become8 C (show drTop r i s g < 2 ^ 62 by omega) (show drBel q i s < 2 ^ 49 by omega) p7, ckI (show j < 40 by omega) (show 40 ≤ 100000 by omega), clI (show j < 2 ^ 31 by omega), rf, p8, p9, mL]
        have w0 : (sL (sL C 8 0 (lN (drTop r i s g / Nat.gcd (drTop r i s g) (drBel q i s)))) 8 1 (lN (drBel q i s / Nat.gcd (drTop r i s g) (drBel q i s)))).2 8 0 = lN (drTop r i s g / Nat.gcd (drTop r i s g) (drBel q i s)) := by
          simp only [l2, updL_at, reduceIte, Nat.reduceEqDiff]
        have w1 : (sL (sL C 8 0 (lN (drTop r i s g / Nat.gcd (drTop r i s g) (drBel q i s)))) 8 1 (lN (drBel q i s / Nat.gcd (drTop r i s g) (drBel q i s)))).2 8 1 = lN (drBel q i s / Nat.gcd (drTop r i s g) (drBel q i s)) := by
          simp only [l2, updL_at, reduceIte, Nat.reduceEqDiff]
        rw [w0, w1, lN_32 (by omega), lN_32 (by omega)]
        rcases (show k = 0 ∨ k = 1 ∨ k = 2 by omega) with rfl | rfl | rfl
        · simp only [show (nI 0 = 0) = True by decide +kernel, reduceIte]
          by_cases e : R.1 15 j = 0
          · rw [if_pos e, if_pos e]
            exact ends_of h
          · rw [if_neg e, if_neg e]
            exact ends_of h
        · simp only [show (nI 1 = 0) = False by decide +kernel, show (nI 1 = 1) = True by decide +kernel, reduceIte]
          exact ends_of (rel_sl (rel_sl h _ _ _) _ _ _)
        · simp only [show (nI 2 = 0) = False by decide +kernel, show (nI 2 = 1) = False by decide +kernel, reduceIte]
          exact ends_of (rel_sl (rel_sl h _ _ _) _ _ _)
      · rw [in_ix (n := 2) R (by omega) rfl hb, bi_, if_pos rfl]
        by_cases b0 : b < 0
        · rw [if_pos b0]
          exact ref2 h
        · rw [if_neg b0, if_neg (show ¬ b ≤ 2 by rcases hb with q | q; exact absurd q b0; rw [Int32.le_iff_toInt_le] at q ⊢; have : (2 : Int32).toInt = 2 := rfl; have : (nI 3).toInt = 3 := (by decide +kernel); omega)]
          exact ref2 h
    · rw [has_n hn ha, isShop_n in1 in2 ha, bi_, bi_, if_pos rfl, if_pos rfl]
      exact ref1 h

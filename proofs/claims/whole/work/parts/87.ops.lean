/-! chances, on both sides -/
theorem ways_c {N s : Nat} (hN : N ≤ 40) (hs1 : s ≤ 100) (M : mm_M) : f_X7_waysToChoose (nI N) (nI s) M = some (lN (ch N s), M) := by
  unfold f_X7_waysToChoose
  rw [if_neg (nI_pos (by omega))]
  by_cases hs : s ≤ N
  · rw [if_pos (nI_le hs (by omega))]
    have key := lpf (fun n i => f_X7_waysToChoose_16 n (nI N) (nI s) (lN (ch (N - s + i) i)) (nI (i + 1)) M) (c := s) (out := some (lN (ch N s), M)) (by omega) ?_ ?_
    · simp only [ch_0] at key
      exact key
    · intro i m hi
      show f_X7_waysToChoose_16 (m + 1) _ _ _ _ _ = f_X7_waysToChoose_16 m _ _ _ _ _
      conv => lhs; unfold f_X7_waysToChoose_16
      have hb := ch_le (N - s + i) i
      have hp : 2 ^ (N - s + i) ≤ 2 ^ 40 := Nat.pow_le_pow_right (by omega) (by omega)
      have hab := ch_abs (N - s + i) i
      have hmul : ch (N - s + i) i * (N - s + (i + 1)) ≤ 2 ^ 40 * 41 := Nat.mul_le_mul (by omega) (by omega)
      rw [if_neg (nI_nlt (by omega) (by omega)), pk_sub hs, nI_add, nI_l (by omega), nI_l (by omega), nzl _ (by omega) (by omega), let_, lN_mul, pk_lDiv (by omega) (by omega) (by omega), add1]
      congr 1
      rw [show N - s + (i + 1) = N - s + i + 1 by omega, Nat.mul_comm, ← hab, Nat.mul_div_cancel_left _ (by omega)]
    · intro m
      show f_X7_waysToChoose_16 (m + 1) _ _ _ (nI (s + 1)) _ = _
      unfold f_X7_waysToChoose_16
      rw [if_pos (nI_lt (by omega) (by omega)), show N - s + s = N by omega]
  · rw [if_neg (nI_ge (by omega) (by omega)), ch_big N s (by omega)]
    rfl
theorem ways_r {N s : Nat} (hN : N ≤ 40) (hs1 : s ≤ 100) (M : mm_M) : f_X12_ways (nI N) (nI s) M = some (lN (ch N s), M) := by
  unfold f_X12_ways
  rw [if_neg (nI_pos (by omega))]
  by_cases hs : s ≤ N
  · rw [if_pos (nI_le hs (by omega))]
    have key := lpf (fun n i => f_X12_ways_16 n (nI N) (nI s) (lN (ch (N - s + i) i)) (nI (i + 1)) M) (c := s) (out := some (lN (ch N s), M)) (by omega) ?_ ?_
    · simp only [ch_0] at key
      exact key
    · intro i m hi
      show f_X12_ways_16 (m + 1) _ _ _ _ _ = f_X12_ways_16 m _ _ _ _ _
      conv => lhs; unfold f_X12_ways_16
      have hb := ch_le (N - s + i) i
      have hp : 2 ^ (N - s + i) ≤ 2 ^ 40 := Nat.pow_le_pow_right (by omega) (by omega)
      have hab := ch_abs (N - s + i) i
      have hmul : ch (N - s + i) i * (N - s + (i + 1)) ≤ 2 ^ 40 * 41 := Nat.mul_le_mul (by omega) (by omega)
      rw [if_neg (nI_nlt (by omega) (by omega)), pk_sub hs, nI_add, nI_l (by omega), nI_l (by omega), nzl _ (by omega) (by omega), let_, lN_mul, pk_lDiv (by omega) (by omega) (by omega), add1]
      congr 1
      rw [show N - s + (i + 1) = N - s + i + 1 by omega, Nat.mul_comm, ← hab, Nat.mul_div_cancel_left _ (by omega)]
    · intro m
      show f_X12_ways_16 (m + 1) _ _ _ (nI (s + 1)) _ = _
      unfold f_X12_ways_16
      rw [if_pos (nI_lt (by omega) (by omega)), show N - s + s = N by omega]
  · rw [if_neg (nI_ge (by omega) (by omega)), ch_big N s (by omega)]
    rfl
theorem become12 {a b : Nat} (M : mm_M) (ha : a < 2 ^ 62) (hb : b < 2 ^ 49) (h0 : 0 < b) : f_X3_become_12 (lN a) (lN b) M = some (sL (sL M 12 0 (lN (a / Nat.gcd a b))) 12 1 (lN (b / Nat.gcd a b))) := by
  have hg : 0 < Nat.gcd a b := Nat.gcd_pos_of_pos_right a h0
  have hg2 : Nat.gcd a b ≤ b := Nat.le_of_dvd h0 (Nat.gcd_dvd_right a b)
  unfold f_X3_become_12 f_X3_commonDivisor
  rw [show f_X3_commonDivisor_9 mm_fu (lN a) (lN b) 0 M = _ from gcd_c 49 a b 0 mm_fu M hb (by omega) (by omega) (by omega) (fuGt (by omega)), bi_, if_pos (show 0 ≤ lg_cmp (lN (Nat.gcd a b)) (1 : Int64) from (lg_cmp_ge _ _).mpr ((pk_lLE (a := 1) (by decide) (by omega)).mpr hg))]
  unfold f_X3_become_12_17
  rw [nzl _ hg (by omega), let_, nzl _ hg (by omega), let_, pk_lDiv (by omega) hg (by omega), pk_lDiv (by omega) hg (by omega)]
/-- the sums -/
def hA (n1 n2 s i : Nat) : Nat := ch n1 i * ch n2 (s - i)
def hA' (n1 n2 s i : Nat) : Nat := ch s i * ch (n1 + n2 - s) (n1 - i)
theorem hA_le {n1 n2 s m : Nat} (h : n1 + n2 ≤ 40) (hm : m ≤ 41) : gsum (hA n1 n2 s) m ≤ 41 * 2 ^ 40 := by
  refine Nat.le_trans (gsum_bd (c := 2 ^ 40) (fun i _ => ?_)) (Nat.mul_le_mul_right _ hm)
  have h1 := ch_le n1 i
  have h2 := ch_le n2 (s - i)
  have h3 : ch n1 i * ch n2 (s - i) ≤ 2 ^ n1 * 2 ^ n2 := Nat.mul_le_mul h1 h2
  rw [← Nat.pow_add] at h3
  exact Nat.le_trans h3 (Nat.pow_le_pow_right (by omega) h)
theorem hA'_le {n1 n2 s m : Nat} (h : n1 + n2 ≤ 40) (hs : s ≤ n1 + n2) (hm : m ≤ 41) : gsum (hA' n1 n2 s) m ≤ 41 * 2 ^ 40 := by
  refine Nat.le_trans (gsum_bd (c := 2 ^ 40) (fun i _ => ?_)) (Nat.mul_le_mul_right _ hm)
  have h1 := ch_le s i
  have h2 := ch_le (n1 + n2 - s) (n1 - i)
  have h3 : ch s i * ch (n1 + n2 - s) (n1 - i) ≤ 2 ^ s * 2 ^ (n1 + n2 - s) := Nat.mul_le_mul h1 h2
  rw [← Nat.pow_add] at h3
  exact Nat.le_trans h3 (Nat.pow_le_pow_right (by omega) (by omega))
theorem h_cross {n1 n2 s m : Nat} (hs : s ≤ n1 + n2) (h1 : m ≤ n1 + 1) (h2 : m ≤ s + 1) : gsum (hA n1 n2 s) m * ch (n1 + n2) n1 = gsum (hA' n1 n2 s) m * ch (n1 + n2) s := by
  rw [Nat.mul_comm, ← gsum_mul, Nat.mul_comm, ← gsum_mul]
  refine gsum_eq (fun i hi => ?_)
  rw [Nat.mul_comm, Nat.mul_comm (ch (n1 + n2) s)]
  exact hyper2 (by omega) (by omega) hs
/-- the class's table -/
def tabC (C : mm_M) (n1 f1 n2 f2 : Nat) : Prop := C.1 11 1 = nI n1 ∧ C.1 11 2 = nI f1 ∧ C.1 11 3 = nI n2 ∧ C.1 11 4 = nI f2
def tabR (R : mm_M) (n1 f1 n2 f2 : Nat) : Prop := R.1 48 0 = nI n1 ∧ R.1 48 1 = nI f1 ∧ R.1 48 2 = nI n2 ∧ R.1 48 3 = nI f2
theorem reckon_c {C : mm_M} {n1 f1 n2 f2 : Nat} (h : tabC C n1 f1 n2 f2) (h1 : f1 ≤ n1) (h2 : f2 ≤ n2) (hN : n1 + n2 ≤ 40) : f_X7_reckonChance C = some (sL (sL C 12 0 (lN (gsum (hA n1 n2 (f1 + f2)) (f1 + 1) / Nat.gcd (gsum (hA n1 n2 (f1 + f2)) (f1 + 1)) (ch (n1 + n2) (f1 + f2))))) 12 1 (lN (ch (n1 + n2) (f1 + f2) / Nat.gcd (gsum (hA n1 n2 (f1 + f2)) (f1 + 1)) (ch (n1 + n2) (f1 + f2))))) := by
  obtain ⟨t1, t2, t3, t4⟩ := h
  have key : f_X7_reckonChance_15 f_X7_reckonChance_54 mm_fu (nI (f1 + f2)) (lN 0) (nI 0) C = f_X7_reckonChance_54 (nI (f1 + f2)) (lN (gsum (hA n1 n2 (f1 + f2)) (f1 + 1))) C := by
    refine lpf (fun m i => f_X7_reckonChance_15 f_X7_reckonChance_54 m (nI (f1 + f2)) (lN (gsum (hA n1 n2 (f1 + f2)) i)) (nI i) C) (c := f1 + 1) (by omega) ?_ ?_
    · intro i m hi
      show f_X7_reckonChance_15 _ (m + 1) _ _ _ _ = f_X7_reckonChance_15 _ m _ _ _ _
      conv => lhs; unfold f_X7_reckonChance_15
      unfold mI
      rw [t2, if_neg (nI_nlt (by omega) (by omega)), t1, ways_c (by omega) (by omega), bi_, t3, pk_sub (by omega), ways_c (by omega) (by omega), bi_, let_, lN_mul, lN_add, add1]
      rfl
    · intro m
      show f_X7_reckonChance_15 _ (m + 1) _ _ (nI (f1 + 1)) _ = _
      unfold f_X7_reckonChance_15 mI
      rw [t2, if_pos (nI_lt (by omega) (by omega))]
  have hb := ch_le (n1 + n2) (f1 + f2)
  have hp : 2 ^ (n1 + n2) ≤ 2 ^ 40 := Nat.pow_le_pow_right (by omega) hN
  have ha := hA_le (n1 := n1) (n2 := n2) (s := f1 + f2) (m := f1 + 1) hN (by omega)
  unfold f_X7_reckonChance mI
  rw [t2, t4, let_, nI_add, show f_X7_reckonChance_15 f_X7_reckonChance_54 mm_fu (nI (f1 + f2)) 0 0 C = _ from key]
  unfold f_X7_reckonChance_54 mI
  rw [t1, t3, nI_add, ways_c (by omega) (by omega), bi_, become12 C (by omega) (by omega) (ch_pos _ _ (by omega)), bv_]
theorem chance_r {R : mm_M} {n1 f1 n2 f2 : Nat} (x : Int32) (h : tabR R n1 f1 n2 f2) (h1 : f1 ≤ n1) (h2 : f2 ≤ n2) (hN : n1 + n2 ≤ 40) : f_X12_chance_53 f_X12_chance_97 mm_fu x (nI (n1 + n2)) (nI (f1 + f2)) (lN 0) (nI 0) R = f_X12_chance_97 x (nI (n1 + n2)) (lN (gsum (hA' n1 n2 (f1 + f2)) (f1 + 1))) R := by
  obtain ⟨t1, t2, t3, t4⟩ := h
  refine lpf (fun m i => f_X12_chance_53 f_X12_chance_97 m x (nI (n1 + n2)) (nI (f1 + f2)) (lN (gsum (hA' n1 n2 (f1 + f2)) i)) (nI i) R) (c := f1 + 1) (by omega) ?_ ?_
  · intro i m hi
    show f_X12_chance_53 _ (m + 1) _ _ _ _ _ _ = f_X12_chance_53 _ m _ _ _ _ _ _
    conv => lhs; unfold f_X12_chance_53
    rw [show ∀ X : Option (Int64 × mm_M), mm_ck (1 : Int32) 4 X = X from fun X => ckI (j := 1) (by omega) (by omega)]
    unfold mI
    rw [show R.1 48 (1 : Int32).toNatClampNeg = nI f1 from t2, if_neg (nI_nlt (by omega) (by omega)), ways_r (by omega) (by omega), bi_, show ∀ X : Option (Int64 × mm_M), mm_ck (0 : Int32) 4 X = X from fun X => ckI (j := 0) (by omega) (by omega), show R.1 48 (0 : Int32).toNatClampNeg = nI n1 from t1, pk_sub (by omega), pk_sub (by omega), ways_r (by omega) (by omega), bi_, let_, lN_mul, lN_add, add1]
    rfl
  · intro m
    show f_X12_chance_53 _ (m + 1) _ _ _ _ (nI (f1 + 1)) _ = _
    unfold f_X12_chance_53
    rw [show ∀ X : Option (Int64 × mm_M), mm_ck (1 : Int32) 4 X = X from fun X => ckI (j := 1) (by omega) (by omega)]
    unfold mI
    rw [show R.1 48 (1 : Int32).toNatClampNeg = nI f1 from t2, if_pos (nI_lt (by omega) (by omega))]
theorem k4_0 {α : Type} {X : Option α} : mm_ck (0 : Int32) 4 X = X := ckI (j := 0) (by omega) (by omega)
theorem k4_1 {α : Type} {X : Option α} : mm_ck (1 : Int32) 4 X = X := ckI (j := 1) (by omega) (by omega)
theorem k4_2 {α : Type} {X : Option α} : mm_ck (2 : Int32) 4 X = X := ckI (j := 2) (by omega) (by omega)
theorem k4_3 {α : Type} {X : Option α} : mm_ck (3 : Int32) 4 X = X := ckI (j := 3) (by omega) (by omega)
theorem case6 {α : Type} {X0 X1 X2 X3 X4 X5 D : Option α} {k : Nat} (hk : k < 7) : mm_case (nI k) [0, 1, 2, 3, 4, 5] [X0, X1, X2, X3, X4, X5] D = if k = 0 then X0 else if k = 1 then X1 else if k = 2 then X2 else if k = 3 then X3 else if k = 4 then X4 else if k = 5 then X5 else D := by
  unfold mm_case mm_case mm_case mm_case mm_case mm_case mm_case
  have e : ∀ (j : Nat) (y : Int32) (P Q : Option α), y = nI j → j < 7 → (if nI k = y then P else Q) = if k = j then P else Q := by
    intro j y P Q hy hj
    rw [hy]
    by_cases z : k = j
    · rw [if_pos z, z, if_pos rfl]
    · rw [if_neg z, if_neg (ne_ (by omega) (by omega) z)]
  rw [e 0 0 _ _ rfl (by omega), e 1 1 _ _ rfl (by omega), e 2 2 _ _ rfl (by omega), e 3 3 _ _ rfl (by omega), e 4 4 _ _ rfl (by omega), e 5 5 _ _ rfl (by omega)]
theorem tell_ok {C R : mm_M} {n1 f1 n2 f2 k : Nat} (hC : tabC C n1 f1 n2 f2) (hR : tabR R n1 f1 n2 f2) (h1 : f1 ≤ n1) (h2 : f2 ≤ n2) (hN : n1 + n2 ≤ 40) (hk : k < 7) : ∃ x C', f_X7_tell (nI k) C = some (x, C') ∧ f_X12_chance (nI k) R = some (x, R) ∧ C'.1 = C.1 := by
  have hC' := hC
  obtain ⟨t1, t2, t3, t4⟩ := hC'
  have hR' := hR
  obtain ⟨r1, r2, r3, r4⟩ := hR'
  have hb := ch_le (n1 + n2) (f1 + f2)
  have hb' := ch_le (n1 + n2) n1
  have hp : 2 ^ (n1 + n2) ≤ 2 ^ 40 := Nat.pow_le_pow_right (by omega) hN
  have ha := hA_le (n1 := n1) (n2 := n2) (s := f1 + f2) (m := f1 + 1) hN (by omega)
  have ha' := hA'_le (n1 := n1) (n2 := n2) (s := f1 + f2) (m := f1 + 1) hN (by omega) (by omega)
  have hcr := h_cross (n1 := n1) (n2 := n2) (s := f1 + f2) (m := f1 + 1) (by omega) (by omega) (by omega)
  have hBp := ch_pos (n1 + n2) (f1 + f2) (by omega)
  have hBp' := ch_pos (n1 + n2) n1 (by omega)
  obtain ⟨fe1, fe2⟩ := frac_eq hBp hBp' hcr
  unfold f_X7_tell
  rw [reckon_c hC h1 h2 hN, bv_, case6 hk]
  generalize hg : gsum (hA n1 n2 (f1 + f2)) (f1 + 1) = A at *
  generalize hg2 : gsum (hA' n1 n2 (f1 + f2)) (f1 + 1) = A' at *
  generalize ch (n1 + n2) (f1 + f2) = B at *
  generalize hB' : ch (n1 + n2) n1 = B' at *
  have gp : 0 < Nat.gcd A B := Nat.gcd_pos_of_pos_right A hBp
  have gp' : 0 < Nat.gcd A' B' := Nat.gcd_pos_of_pos_right A' hBp'
  have gl' : Nat.gcd A' B' ≤ B' := Nat.le_of_dvd hBp' (Nat.gcd_dvd_right _ _)
  have dA := Nat.div_le_self A (Nat.gcd A B)
  have dB := Nat.div_le_self B (Nat.gcd A B)
  have m0 : mL (sL (sL C 12 0 (lN (A / Nat.gcd A B))) 12 1 (lN (B / Nat.gcd A B))) 12 0 = lN (A / Nat.gcd A B) := by
    show (sL (sL C 12 0 (lN (A / Nat.gcd A B))) 12 1 (lN (B / Nat.gcd A B))).2 12 0 = _
    simp only [l2, updL_at, reduceIte, Nat.reduceEqDiff]
  have m1 : mL (sL (sL C 12 0 (lN (A / Nat.gcd A B))) 12 1 (lN (B / Nat.gcd A B))) 12 1 = lN (B / Nat.gcd A B) := by
    show (sL (sL C 12 0 (lN (A / Nat.gcd A B))) 12 1 (lN (B / Nat.gcd A B))).2 12 1 = _
    simp only [l2, updL_at, reduceIte, Nat.reduceEqDiff]
  have c97 : ∀ x, ¬ (2 ≤ x ∧ x ≤ 5) → x < 7 → f_X12_chance (nI x) R = f_X12_chance_97 (nI x) (nI (n1 + n2)) (lN A') R := by
    intro x hx hx7
    have hin : f_X12_in (nI x) 2 5 R = some (0, R) := by
      by_cases z : x < 2
      · exact in_n R (Or.inl (show nI x < 2 from nI_lt (b := 2) z (by omega)))
      · exact in_n R (Or.inr (show (5 : Int32) < nI x from nI_lt (a := 5) (by omega) (by omega)))
    have hr := chance_r (nI x) hR h1 h2 hN
    rw [hg2] at hr
    unfold f_X12_chance
    rw [hin, bi_, if_pos rfl]
    simp only [k4_0, k4_1, k4_2, k4_3, let_, mI, kc_0, kc_1, kc_2, kc_3, r1, r2, r3, r4, nI_add]
    exact hr
  have c97v : ∀ x, f_X12_chance_97 x (nI (n1 + n2)) (lN A') R = if x = 6 then (if 0 < lg_cmp (lN A' * 20) (lN B') then some (0, R) else some (1, R)) else if x = 0 then some (lN (A' / Nat.gcd A' B'), R) else some (lN (B' / Nat.gcd A' B'), R) := by
    intro x
    unfold f_X12_chance_97
    simp only [k4_0, mI, kc_0, r1]
    rw [ways_r hN (by omega), bi_, hB', gcd_ok R (by omega) (by omega), bi_, nzl _ gp' (by omega), nzl _ gp' (by omega), pk_lDiv (by omega) gp' (by omega), pk_lDiv (by omega) gp' (by omega)]
  have c25 : ∀ x, 2 ≤ x → x ≤ 5 → f_X12_chance (nI x) R = some ((R.1 48 (x - 2)).toInt64, R) := by
    intro x hx hx5
    unfold f_X12_chance
    rw [in_y R (show (2 : Int32) ≤ nI x from nI_le (a := 2) hx (by omega)) (show nI x ≤ 5 from nI_le (b := 5) hx5 (by omega)), bi_, if_neg n10, show nI x - 2 = nI (x - 2) from pk_sub (b := 2) hx, ckI (by omega) (by omega), clI (by omega)]
    rfl
  have kk : ∀ a, (sL (sL C 12 0 (lN (A / Nat.gcd A B))) 12 1 (lN (B / Nat.gcd A B))).1 a = C.1 a := fun a => rfl
  rcases (show k = 0 ∨ k = 1 ∨ k = 2 ∨ k = 3 ∨ k = 4 ∨ k = 5 ∨ k = 6 by omega) with rfl | rfl | rfl | rfl | rfl | rfl | rfl
  · refine ⟨_, _, rfl, ?_, rfl⟩
    rw [c97 0 (by omega) (by omega), c97v, if_neg (show ¬ nI 0 = 6 from ne_ (a := 0) (b := 6) (by omega) (by omega) (by omega)), if_pos (show nI 0 = 0 from rfl), m0, fe1]
  · refine ⟨_, _, rfl, ?_, rfl⟩
    rw [c97 1 (by omega) (by omega), c97v, if_neg (show ¬ nI 1 = 6 from ne_ (a := 1) (b := 6) (by omega) (by omega) (by omega)), if_neg (show ¬ nI 1 = 0 from n10), m1, fe2]
  · refine ⟨_, _, rfl, ?_, rfl⟩
    rw [c25 2 (by omega) (by omega)]
    show some ((R.1 48 0).toInt64, R) = some ((C.1 11 1).toInt64, R)
    rw [r1, t1]
  · refine ⟨_, _, rfl, ?_, rfl⟩
    rw [c25 3 (by omega) (by omega)]
    show some ((R.1 48 1).toInt64, R) = some ((C.1 11 2).toInt64, R)
    rw [r2, t2]
  · refine ⟨_, _, rfl, ?_, rfl⟩
    rw [c25 4 (by omega) (by omega)]
    show some ((R.1 48 2).toInt64, R) = some ((C.1 11 3).toInt64, R)
    rw [r3, t3]
  · refine ⟨_, _, rfl, ?_, rfl⟩
    rw [c25 5 (by omega) (by omega)]
    show some ((R.1 48 3).toInt64, R) = some ((C.1 11 4).toInt64, R)
    rw [r4, t4]
  · have eA' : A' / Nat.gcd A' B' * Nat.gcd A' B' = A' := Nat.div_mul_cancel (Nat.gcd_dvd_left A' B')
    have eB' : B' / Nat.gcd A' B' * Nat.gcd A' B' = B' := Nat.div_mul_cancel (Nat.gcd_dvd_right A' B')
    have e20 : (20 : Int64) = lN 20 := rfl
    have hiff : (B' < A' * 20) ↔ (B / Nat.gcd A B < A / Nat.gcd A B * 20) := by
      rw [fe1, fe2]
      generalize A' / Nat.gcd A' B' = a at *
      generalize B' / Nat.gcd A' B' = b at *
      generalize Nat.gcd A' B' = g at *
      rw [← eA', ← eB', Nat.mul_right_comm]
      exact Nat.mul_lt_mul_right gp'
    rw [c97 6 (by omega) (by omega), c97v, if_pos (show nI 6 = 6 from rfl), if_neg (by omega), if_neg (by omega), if_neg (by omega), if_neg (by omega), if_neg (by omega), if_neg (by omega), m0, m1, e20, lN_mul, lN_mul]
    have d1 : (0 < lg_cmp (lN (A / Nat.gcd A B * 20)) (lN (B / Nat.gcd A B))) ↔ B / Nat.gcd A B < A / Nat.gcd A B * 20 := by
      rw [lg_cmp_gt, pk_lLT (by omega) (by omega)]
    have d2 : (0 < lg_cmp (lN (A' * 20)) (lN B')) ↔ B' < A' * 20 := by
      rw [lg_cmp_gt, pk_lLT (by omega) (by omega)]
    by_cases z : B' < A' * 20
    · rw [if_pos (d1.mpr (hiff.mp z)), if_pos (d2.mpr z)]
      exact ⟨_, _, rfl, rfl, rfl⟩
    · rw [if_neg (fun y => z (hiff.mpr (d1.mp y))), if_neg (fun y => z (d2.mp y))]
      exact ⟨_, _, rfl, rfl, rfl⟩

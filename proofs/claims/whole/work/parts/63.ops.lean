/-! units -/
def isF (c : Int32) : Prop := c = 97 ∨ c = 98 ∨ c = 99 ∨ c = 100 ∨ c = 103 ∨ c = 104 ∨ c = 107 ∨ c = 109 ∨ c = 110 ∨ c = 111 ∨ c = 112 ∨ c = 115 ∨ c = 121
theorem isF_y {c : Int32} (M : mm_M) (h : isF c) : f_X11_isFact c M = some (1, M) := by
  rcases h with rfl | rfl | rfl | rfl | rfl | rfl | rfl | rfl | rfl | rfl | rfl | rfl | rfl <;> rfl
theorem isF_n {c : Int32} (M : mm_M) (h : ¬ isF c) : f_X11_isFact c M = some (0, M) := by
  unfold isF at h
  simp only [not_or] at h
  obtain ⟨a1, a2, a3, a4, a5, a6, a7, a8, a9, a10, a11, a12, a13⟩ := h
  unfold f_X11_isFact mm_case mm_case mm_case mm_case mm_case mm_case mm_case mm_case mm_case mm_case mm_case mm_case mm_case mm_case
  rw [if_neg a1, if_neg a2, if_neg a3, if_neg a4, if_neg a5, if_neg a6, if_neg a7, if_neg a8, if_neg a9, if_neg a10, if_neg a11, if_neg a12, if_neg a13]
theorem fO_n {c : Int32} (M : mm_M) (h : ¬ isF c) : f_X12_factOf c M = some (-1, M) := by
  unfold isF at h
  simp only [not_or] at h
  obtain ⟨a1, a2, a3, a4, a5, a6, a7, a8, a9, a10, a11, a12, a13⟩ := h
  unfold f_X12_factOf mm_case mm_case mm_case mm_case mm_case mm_case mm_case mm_case mm_case mm_case mm_case mm_case mm_case mm_case
  rw [if_neg a1, if_neg a2, if_neg a3, if_neg a4, if_neg a5, if_neg a6, if_neg a7, if_neg a8, if_neg a9, if_neg a10, if_neg a11, if_neg a12, if_neg a13]
/-- a fact: its place in the reference's row, its token -/
theorem fO_y {c : Int32} (h : isF c) : ∃ k, k < 13 ∧ (∀ M, f_X12_factOf c M = some (nI k, M)) ∧ ∀ F g, corr F g → evU F (10000 + c - 97) = g k ∧ 0 ≤ (10000 : Int32) + c - 97 := by
  rcases h with rfl | rfl | rfl | rfl | rfl | rfl | rfl | rfl | rfl | rfl | rfl | rfl | rfl
  · exact ⟨0, by omega, fun _ => rfl, fun F g q => ⟨q.1, by decide +kernel⟩⟩
  · exact ⟨1, by omega, fun _ => rfl, fun F g q => ⟨q.2.1, by decide +kernel⟩⟩
  · exact ⟨2, by omega, fun _ => rfl, fun F g q => ⟨q.2.2.1, by decide +kernel⟩⟩
  · exact ⟨9, by omega, fun _ => rfl, fun F g q => ⟨q.2.2.2.1, by decide +kernel⟩⟩
  · exact ⟨3, by omega, fun _ => rfl, fun F g q => ⟨q.2.2.2.2.1, by decide +kernel⟩⟩
  · exact ⟨4, by omega, fun _ => rfl, fun F g q => ⟨q.2.2.2.2.2.1, by decide +kernel⟩⟩
  · exact ⟨5, by omega, fun _ => rfl, fun F g q => ⟨q.2.2.2.2.2.2.1, by decide +kernel⟩⟩
  · exact ⟨12, by omega, fun _ => rfl, fun F g q => ⟨q.2.2.2.2.2.2.2.1, by decide +kernel⟩⟩
  · exact ⟨6, by omega, fun _ => rfl, fun F g q => ⟨q.2.2.2.2.2.2.2.2.1, by decide +kernel⟩⟩
  · exact ⟨7, by omega, fun _ => rfl, fun F g q => ⟨q.2.2.2.2.2.2.2.2.2.1, by decide +kernel⟩⟩
  · exact ⟨8, by omega, fun _ => rfl, fun F g q => ⟨q.2.2.2.2.2.2.2.2.2.2.1, by decide +kernel⟩⟩
  · exact ⟨10, by omega, fun _ => rfl, fun F g q => ⟨q.2.2.2.2.2.2.2.2.2.2.2.1, by decide +kernel⟩⟩
  · exact ⟨11, by omega, fun _ => rfl, fun F g q => ⟨q.2.2.2.2.2.2.2.2.2.2.2.2, by decide +kernel⟩⟩
def isD (c : Int32) : Prop := 48 ≤ c ∧ c ≤ 57
theorem isD_of {c : Int32} (h : isD c) : ∃ b, c = nI b ∧ 48 ≤ b ∧ b ≤ 57 := by
  obtain ⟨k, rfl, h1, h2⟩ := num_of (lo := 48) (hi := 57) 48 57 rfl rfl (by omega) (by omega) h.1 h.2
  exact ⟨k, rfl, h1, h2⟩
theorem dC_y {c : Int32} (M : mm_M) (h : isD c) : f_X8_isDigit c M = some (1, M) := by
  obtain ⟨b, rfl, h1, h2⟩ := isD_of h
  unfold f_X8_isDigit
  rw [if_neg (show ¬ nI b < 48 from nI_nlt (b := 48) h1 (by omega)), if_neg (show ¬ (57 : Int32) < nI b from nI_nlt (a := 57) h2 (by omega))]
theorem dC_n {c : Int32} (M : mm_M) (h : ¬ isD c) : f_X8_isDigit c M = some (0, M) := by
  unfold f_X8_isDigit
  by_cases e : c < 48
  · rw [if_pos e]
  · rw [if_neg e, if_pos]
    unfold isD at h
    rw [Int32.lt_iff_toInt_lt] at e ⊢
    rw [Int32.le_iff_toInt_le, Int32.le_iff_toInt_le] at h
    omega
theorem dR_y {c : Int32} (M : mm_M) (h : isD c) : f_X12_isDigit c M = some (1, M) := by
  unfold f_X12_isDigit
  rw [in_y M h.1 h.2, bi_, bz1]
theorem dR_n {c : Int32} (M : mm_M) (h : ¬ isD c) : f_X12_isDigit c M = some (0, M) := by
  unfold f_X12_isDigit
  rw [in_n M, bi_, bz0]
  unfold isD at h
  rw [Int32.lt_iff_toInt_lt, Int32.lt_iff_toInt_lt]
  rw [Int32.le_iff_toInt_le, Int32.le_iff_toInt_le] at h
  omega
/-- at most m digits from p on -/
def dig (by_ : Nat → Int32) (z : Nat) : Nat → Nat → Nat → Nat × Nat
  | 0, p, w => (p, w)
  | m + 1, p, w => if 48 ≤ bAt by_ z p ∧ bAt by_ z p ≤ 57 then dig by_ z m (p + 1) (w * 10 + (nN (bAt by_ z p) - 48)) else (p, w)
theorem bAt_lt {by_ : Nat → Int32} {z p : Nat} (h : ¬ bAt by_ z p = -1) : p < z := by
  unfold bAt at h
  by_cases e : p < z
  · exact e
  · rw [if_neg e] at h
    exact absurd rfl h
theorem isD_lt {by_ : Nat → Int32} {z p : Nat} (h : isD (bAt by_ z p)) : p < z := bAt_lt (fun q => by rw [q] at h; exact absurd h.1 (by decide +kernel))
theorem dig_ok (by_ : Nat → Int32) (z : Nat) : ∀ (m p w : Nat), p ≤ z → p ≤ (dig by_ z m p w).1 ∧ (dig by_ z m p w).1 ≤ z ∧ (dig by_ z m p w).2 + 1 ≤ (w + 1) * 10 ^ m := by
  intro m
  induction m with
  | zero =>
    intro p w hp
    exact ⟨Nat.le_refl _, hp, by show w + 1 ≤ (w + 1) * 1; omega⟩
  | succ m ih =>
    intro p w hp
    unfold dig
    by_cases e : 48 ≤ bAt by_ z p ∧ bAt by_ z p ≤ 57
    · rw [if_pos e]
      have hp2 := isD_lt e
      obtain ⟨b, hb, h1, h2⟩ := isD_of e
      obtain ⟨k1, k2, k3⟩ := ih (p + 1) (w * 10 + (nN (bAt by_ z p) - 48)) (by omega)
      refine ⟨by omega, k2, Nat.le_trans k3 ?_⟩
      rw [Nat.pow_succ, Nat.mul_comm (10 ^ m) 10, ← Nat.mul_assoc]
      refine Nat.mul_le_mul_right _ ?_
      rw [hb, nN_nI (by omega)]
      omega
    · rw [if_neg e]
      refine ⟨Nat.le_refl _, hp, ?_⟩
      exact Nat.le_mul_of_pos_right _ (Nat.pow_pos (by omega))
theorem num_d {w b : Nat} (h : 48 ≤ b) : nI w * 10 + nI b - 48 = nI (w * 10 + (b - 48)) := by
  rw [l10, pk_mul, nI_add, show (48 : Int32) = nI 48 from rfl, pk_sub (by omega), Nat.add_sub_assoc h]
theorem dig_c {by_ : Nat → Int32} {z : Nat} (hz : z ≤ 80) (K : Int32 → mm_M → Option mm_M) : ∀ (m p w n L : Nat) (C : mm_M), m ≤ 4 → m < n → cAt by_ z C p L → f_X8_readUnit_51 K n (nI w) (nI (4 - m)) C = K (nI (dig by_ z m p w).2) (sI C 9 4 (nI (dig by_ z m p w).1)) := by
  intro m
  induction m with
  | zero =>
    intro p w n L C hm hn h
    obtain ⟨n, rfl⟩ : ∃ q, n = q + 1 := ⟨n - 1, by omega⟩
    unfold f_X8_readUnit_51 dig
    rw [if_pos (show (4 : Int32) ≤ nI (4 - 0) by decide +kernel)]
    show K (nI w) C = K (nI w) (sI C 9 4 (nI p))
    rw [← h.2.2.1]
    congr 1
    rw [sI_sA, upd_id, sA_id]
  | succ m ih =>
    intro p w n L C hm hn h
    obtain ⟨n, rfl⟩ : ∃ q, n = q + 1 := ⟨n - 1, by omega⟩
    unfold f_X8_readUnit_51 dig mI
    rw [if_neg (show ¬ (4 : Int32) ≤ nI (4 - (m + 1)) from nI_ge (b := 4) (by omega) (by decide)), peek_ok h hz, bi_]
    by_cases e : isD (bAt by_ z p)
    · obtain ⟨b, hb, h1, h2⟩ := isD_of e
      have hp2 := isD_lt e
      rw [dC_y C e, bi_, if_neg n10, peek_ok h hz, bi_, let_, let_, if_pos (show 48 ≤ bAt by_ z p ∧ bAt by_ z p ≤ 57 from e), hb, num_d h1, h.2.2.1, add1, add1, show 4 - (m + 1) + 1 = 4 - m by omega, nN_nI (by omega)]
      rw [ih (p + 1) (w * 10 + (b - 48)) n L (sI C 9 4 (nI (p + 1))) (by omega) (by omega) (cAt_next (q := (p + 1, [])) h ⟨by omega, by omega, by show 0 + p ≤ p + 1; omega⟩ (adv_ok h hp2))]
      congr 1
      rw [sI_sA, sI_sA, sI_sA, sA_sA]
      congr 1
      simp only [sA1, reduceIte]
      rw [upd_upd]
    · rw [dC_n C e, bi_, if_pos rfl, if_neg (show ¬ (48 ≤ bAt by_ z p ∧ bAt by_ z p ≤ 57) from e)]
      show K (nI w) C = K (nI w) (sI C 9 4 (nI p))
      rw [← h.2.2.1]
      congr 1
      rw [sI_sA, upd_id, sA_id]
/-- the reference, with no fault, at p -/
def rAt (by_ : Nat → Int32) (z : Nat) (R : mm_M) (p : Nat) : Prop := R.1 0 34 = nI z ∧ R.1 0 35 = nI p ∧ R.1 0 36 = 0 ∧ (∀ k, k < z → R.1 24 k = by_ k) ∧ p ≤ z
theorem byte_ok {by_ : Nat → Int32} {z p : Nat} {R : mm_M} (h : rAt by_ z R p) (hz : z ≤ 80) : f_X12_byteAt (nI p) R = some (bAt by_ z p, R) := by
  obtain ⟨h1, h2, h3, h4, h5⟩ := h
  unfold f_X12_byteAt bAt
  by_cases e : p < z
  · have e1 : ¬ z ≤ p := by omega
    simp (disch := omega) only [mI, let_, bi_, bv_, ckI, clI, nI_leI, nI_ltI, nI_eq, nI_add, add1, ad0, pk_mul, pk_sub, e0, e1, ge0, lt0, le0, gt0, lt1, l2_, l3, l4, l5, l6, l7, l8, l9, l10, l12, l13, l20, l26, l30, l40, l80, l99, l100, l240, l320, l999, l1000, l2000, a11, a01, z01, z00, bz0, bz1, s1, s2, l1, l2, upd_at, Nat.reduceEqDiff, reduceIte, h1, e, e1]
    rw [h4 p e]
  · have e1 : z ≤ p := by omega
    simp (disch := omega) only [mI, let_, bi_, bv_, ckI, clI, nI_leI, nI_ltI, nI_eq, nI_add, add1, ad0, pk_mul, pk_sub, e0, e1, ge0, lt0, le0, gt0, lt1, l2_, l3, l4, l5, l6, l7, l8, l9, l10, l12, l13, l20, l26, l30, l40, l80, l99, l100, l240, l320, l999, l1000, l2000, a11, a01, z01, z00, bz0, bz1, s1, s2, l1, l2, upd_at, Nat.reduceEqDiff, reduceIte, h1, e, e1]
theorem rAt_next {by_ : Nat → Int32} {z p q : Nat} {R : mm_M} (h : rAt by_ z R p) (hq : q ≤ z) : rAt by_ z (sI R 0 35 (nI q)) q := by
  obtain ⟨h1, h2, h3, h4, h5⟩ := h
  refine ⟨?_, ?_, ?_, fun k hk => ?_, hq⟩
  · simp only [s1, s2, l1, l2, upd_at, Nat.reduceEqDiff, reduceIte]
    exact h1
  · simp only [s1, s2, l1, l2, upd_at, Nat.reduceEqDiff, reduceIte]
  · simp only [s1, s2, l1, l2, upd_at, Nat.reduceEqDiff, reduceIte]
    exact h3
  · simp only [s1, s2, l1, l2, upd_at, Nat.reduceEqDiff, reduceIte]
    exact h4 k hk
theorem dig_r {by_ : Nat → Int32} {z : Nat} (hz : z ≤ 80) (K : Int32 → Int32 → mm_M → Option (Int32 × mm_M)) : ∀ (m p w n : Nat) (R : mm_M), m ≤ 4 → m < n → rAt by_ z R p → f_X12_readUnit_40 K n (nI w) (nI (4 - m)) R = K (nI (dig by_ z m p w).2) (nI (4 - m + ((dig by_ z m p w).1 - p))) (sI R 0 35 (nI (dig by_ z m p w).1)) := by
  intro m
  induction m with
  | zero =>
    intro p w n R hm hn h
    obtain ⟨n, rfl⟩ : ∃ q, n = q + 1 := ⟨n - 1, by omega⟩
    unfold f_X12_readUnit_40 dig
    rw [if_pos (show (4 : Int32) ≤ nI (4 - 0) by decide +kernel)]
    show K (nI w) _ R = K (nI w) (nI (4 - 0 + (p - p))) (sI R 0 35 (nI p))
    rw [← h.2.1, Nat.sub_self]
    congr 1
    rw [sI_sA, upd_id, sA_id]
  | succ m ih =>
    intro p w n R hm hn h
    obtain ⟨n, rfl⟩ : ∃ q, n = q + 1 := ⟨n - 1, by omega⟩
    unfold f_X12_readUnit_40 dig mI
    rw [if_neg (show ¬ (4 : Int32) ≤ nI (4 - (m + 1)) from nI_ge (b := 4) (by omega) (by decide)), h.2.1, byte_ok h hz, bi_]
    by_cases e : isD (bAt by_ z p)
    · obtain ⟨b, hb, h1, h2⟩ := isD_of e
      have hp2 := isD_lt e
      rw [dR_y R e, bi_, if_neg n10, h.2.1, byte_ok h hz, bi_, let_, let_, if_pos (show 48 ≤ bAt by_ z p ∧ bAt by_ z p ≤ 57 from e), hb, Int32.mul_comm, num_d h1, h.2.1, add1, add1, show 4 - (m + 1) + 1 = 4 - m by omega, nN_nI (by omega)]
      have k := dig_ok by_ z m (p + 1) (w * 10 + (b - 48)) (by omega)
      rw [ih (p + 1) (w * 10 + (b - 48)) n (sI R 0 35 (nI (p + 1))) (by omega) (by omega) (rAt_next h (by omega))]
      congr 1
      · congr 1
        omega
      · rw [sI_sA, sI_sA, sI_sA, sA_sA]
        congr 1
        simp only [sA1, reduceIte]
        rw [upd_upd]
    · rw [dR_n R e, bi_, if_pos rfl, if_neg (show ¬ (48 ≤ bAt by_ z p ∧ bAt by_ z p ≤ 57) from e)]
      show K (nI w) _ R = K (nI w) (nI (4 - (m + 1) + (p - p))) (sI R 0 35 (nI p))
      rw [← h.2.1, Nat.sub_self]
      congr 1
      rw [sI_sA, upd_id, sA_id]

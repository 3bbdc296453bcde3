/-! weighed back -/
def LC : Nat := 232792560
theorem LC_d : ∀ g, g < 21 → 1 ≤ g → LC % g = 0 := by decide
def bD (r : Nat) : Nat := (if r = 0 then 1 else r) * LC
theorem bD_le {r : Nat} (h : r ≤ 40) : LC ≤ bD r ∧ bD r ≤ 40 * LC := by
  unfold bD LC
  split <;> omega
/-- a shop's share, as so many parts of 1 by bD -/
def bT (r q i s g : Nat) : Nat := if s = 0 then q * (LC / g) else bD r
theorem bT_ok {r q i s g : Nat} (hi : i ≠ 0) (h : 1 ≤ drTop r i s g) (hg : g ≤ 20) : drBel q i s * bD r = bT r q i s g * drTop r i s g := by
  unfold drTop at h
  rw [if_neg hi] at h
  unfold drBel drTop bT
  rw [if_neg hi, if_neg hi]
  by_cases e : s = 0
  · rw [if_pos e] at h
    rw [if_pos e, if_pos e, if_pos e]
    have hr : r ≠ 0 := fun z => by rw [z, Nat.zero_mul] at h; omega
    have hg0 : g ≠ 0 := fun z => by rw [z, Nat.mul_zero] at h; omega
    have hl : LC / g * g = LC := Nat.div_mul_cancel (Nat.dvd_of_mod_eq_zero (LC_d g (by omega) (by omega)))
    unfold bD
    rw [if_neg hr, Nat.mul_assoc q, Nat.mul_comm r g, ← Nat.mul_assoc (LC / g), hl, Nat.mul_comm LC r]
  · rw [if_neg e, if_neg e, if_neg e, Nat.one_mul, Nat.mul_one]
theorem bT_le {r q i s g : Nat} (hq : q ≤ 800) (hr : r ≤ 40) : bT r q i s g ≤ 800 * bD r := by
  obtain ⟨h1, h2⟩ := bD_le hr
  unfold bT
  split
  · have h3 := Nat.div_le_self LC g
    exact Nat.mul_le_mul hq (by omega)
  · omega
/-- the sum S / D in its lowest terms -/
def stC (C : mm_M) (S D : Nat) : Prop := C.2 8 0 = lN (S / Nat.gcd S D) ∧ C.2 8 1 = lN (D / Nat.gcd S D)
def stR_ (R : mm_M) (S D : Nat) : Prop := R.2 0 24 = lN (S / Nat.gcd S D) ∧ R.2 0 25 = lN (D / Nat.gcd S D)
theorem add_num {S D T tp bl : Nat} (hD : 0 < D) (h : bl * D = T * tp) : (S / Nat.gcd S D * tp + bl * (D / Nat.gcd S D)) * D = (S + T) * (D / Nat.gcd S D * tp) := by
  have e : S / Nat.gcd S D * D = S * (D / Nat.gcd S D) := by
    have e1' : S / Nat.gcd S D * Nat.gcd S D = S := Nat.div_mul_cancel (Nat.gcd_dvd_left S D)
    have e2' : D / Nat.gcd S D * Nat.gcd S D = D := Nat.div_mul_cancel (Nat.gcd_dvd_right S D)
    generalize S / Nat.gcd S D = a at *
    generalize D / Nat.gcd S D = b at *
    generalize Nat.gcd S D = g at *
    rw [← e1', ← e2', Nat.mul_right_comm a g b, Nat.mul_assoc]
  rw [Nat.add_mul, Nat.add_mul, Nat.mul_right_comm, e, Nat.mul_right_comm bl, h]
  congr 1
  · rw [Nat.mul_assoc]
  · rw [Nat.mul_assoc, Nat.mul_comm tp]
theorem add_bd {S D tp bl : Nat} (hS : S ≤ 32000 * D) (hD : D ≤ 40 * LC) (ht : tp ≤ 800) (hb : bl ≤ 800) : S / Nat.gcd S D * tp + bl * (D / Nat.gcd S D) < 2 ^ 60 ∧ D / Nat.gcd S D * tp < 2 ^ 49 := by
  have h1 := Nat.div_le_self S (Nat.gcd S D)
  have h2 := Nat.div_le_self D (Nat.gcd S D)
  have h3 : S / Nat.gcd S D * tp ≤ (32000 * (40 * LC)) * 800 := Nat.mul_le_mul (by omega) ht
  have h4 : bl * (D / Nat.gcd S D) ≤ 800 * (40 * LC) := Nat.mul_le_mul hb (by omega)
  have h5 : D / Nat.gcd S D * tp ≤ (40 * LC) * 800 := Nat.mul_le_mul (by omega) ht
  unfold LC at *
  omega
theorem add_c {C : mm_M} {S D T tp bl : Nat} (hst : stC C S D) (hD0 : 0 < D) (h : bl * D = T * tp) (hS : S ≤ 32000 * D) (hD : D ≤ 40 * LC) (ht1 : 1 ≤ tp) (ht : tp ≤ 800) (hb : bl ≤ 800) : ∃ C', f_X3_add_8 (lN bl) (lN tp) C = some C' ∧ C'.1 = C.1 ∧ stC C' (S + T) D := by
  obtain ⟨b1, b2⟩ := add_bd hS hD ht hb
  have hbp : 0 < D / Nat.gcd S D := Nat.div_pos (Nat.le_of_dvd hD0 (Nat.gcd_dvd_right S D)) (Nat.gcd_pos_of_pos_right S hD0)
  have hY : 0 < D / Nat.gcd S D * tp := Nat.mul_pos hbp ht1
  have fe := frac_eq hY hD0 (add_num hD0 h)
  unfold f_X3_add_8 mL
  rw [hst.1, hst.2, lN_mul, lN_mul, lN_mul, lN_add, become8 C (by omega) b2 hY, bv_]
  refine ⟨_, rfl, rfl, ?_, ?_⟩
  · simp only [l2, updL_at, reduceIte, Nat.reduceEqDiff]
    rw [fe.1]
  · simp only [l2, updL_at, reduceIte, Nat.reduceEqDiff]
    rw [fe.2]
theorem add_r {R : mm_M} {S D T tp bl j : Nat} (hj : j < 40) (hst : stR_ R S D) (hD0 : 0 < D) (h : bl * D = T * tp) (hS : S ≤ 32000 * D) (hD : D ≤ 40 * LC) (ht1 : 1 ≤ tp) (ht : tp ≤ 800) (hb : bl ≤ 800) (r16 : R.1 16 j = nI tp) (r17 : R.1 17 j = nI bl) : ∃ R', f_X12_addBack (nI j) R = some R' ∧ R'.1 = R.1 ∧ stR_ R' (S + T) D := by
  obtain ⟨b1, b2⟩ := add_bd hS hD ht hb
  have hbp : 0 < D / Nat.gcd S D := Nat.div_pos (Nat.le_of_dvd hD0 (Nat.gcd_dvd_right S D)) (Nat.gcd_pos_of_pos_right S hD0)
  have hY : 0 < D / Nat.gcd S D * tp := Nat.mul_pos hbp ht1
  have fe := frac_eq hY hD0 (add_num hD0 h)
  have hgp : 0 < Nat.gcd (S / Nat.gcd S D * tp + bl * (D / Nat.gcd S D)) (D / Nat.gcd S D * tp) := Nat.gcd_pos_of_pos_right _ hY
  have hgl : Nat.gcd (S / Nat.gcd S D * tp + bl * (D / Nat.gcd S D)) (D / Nat.gcd S D * tp) ≤ D / Nat.gcd S D * tp := Nat.le_of_dvd hY (Nat.gcd_dvd_right _ _)
  unfold f_X12_addBack mL mI
  rw [ckI hj (by omega), ckI hj (by omega), let_, ckI hj (by omega), let_, clI (by omega), r16, r17, nI_l (by omega), nI_l (by omega), hst.1, hst.2, lN_mul, lN_mul, lN_mul, lN_add, Nat.mul_comm (D / Nat.gcd S D) bl, gcd_ok R b1 (by omega), bi_, nzl _ hgp (by omega), let_, nzl _ hgp (by omega), let_, pk_lDiv (by omega) hgp (by omega), pk_lDiv (by omega) hgp (by omega)]
  refine ⟨_, rfl, rfl, ?_, ?_⟩
  · simp only [l2, updL_at, reduceIte, Nat.reduceEqDiff]
    rw [fe.1]
  · simp only [l2, updL_at, reduceIte, Nat.reduceEqDiff]
    rw [fe.2]
/-- whether the latest good test of shop s among the first was sold; its number -/
def slF (gd sh bi : Nat → Int32) (s : Int32) : Nat → Int32
  | 0 => 0
  | j + 1 => if ¬ gd j = 0 ∧ sh j = s then (if (bi j &&& 4) = 0 then 0 else 1) else slF gd sh bi s j
def laF (gd sh : Nat → Int32) (s : Int32) : Nat → Int32
  | 0 => -1
  | j + 1 => if ¬ gd j = 0 ∧ sh j = s then nI j else laF gd sh s j
theorem slF01 (gd sh bi : Nat → Int32) (s : Int32) : ∀ j, slF gd sh bi s j = 0 ∨ slF gd sh bi s j = 1 := by
  intro j
  induction j with
  | zero => exact Or.inl rfl
  | succ j ih =>
    unfold slF
    split
    · split
      · exact Or.inl rfl
      · exact Or.inr rfl
    · exact ih
theorem la_sl (gd sh bi : Nat → Int32) (s : Int32) : ∀ j, j ≤ 100 → (laF gd sh s j = -1 ∧ slF gd sh bi s j = 0) ∨ ∃ k, k < j ∧ laF gd sh s j = nI k ∧ slF gd sh bi s j = if (bi k &&& 4) = 0 then 0 else 1 := by
  intro j
  induction j with
  | zero => exact fun _ => Or.inl ⟨rfl, rfl⟩
  | succ j ih =>
    intro hj
    by_cases e : ¬ gd j = 0 ∧ sh j = s
    · refine Or.inr ⟨j, by omega, if_pos e, if_pos e⟩
    · have e1' : laF gd sh s (j + 1) = laF gd sh s j := if_neg e
      have e2' : slF gd sh bi s (j + 1) = slF gd sh bi s j := if_neg e
      rw [e1', e2']
      rcases ih (by omega) with z | ⟨k, k1, k2, k3⟩
      · exact Or.inl z
      · exact Or.inr ⟨k, by omega, k2, k3⟩
theorem lgs_c {C R : mm_M} {t : Nat} (h : TB t C R) (s : Int32) : f_X10_latestGoodSold s C = some (slF (R.1 36) (R.1 28) (R.1 32) s t, C) := by
  obtain ⟨h1, h2, h3, h4, h5, h6, h7, h8⟩ := h
  unfold f_X10_latestGoodSold
  refine lpf (fun m j => f_X10_latestGoodSold_4 m s (slF (R.1 36) (R.1 28) (R.1 32) s j) (nI j) C) (c := t) (by omega) ?_ ?_
  · intro j m hj
    show f_X10_latestGoodSold_4 (m + 1) _ _ _ _ = f_X10_latestGoodSold_4 m _ _ _ _
    obtain ⟨b, b1, b2, b3⟩ := h8 j hj
    have hs := sold_c h1 h3 hj (b := b) (by rw [h7]; exact b1)
    have hl : slF (R.1 36) (R.1 28) (R.1 32) s (j + 1) = if ¬ R.1 36 j = 0 ∧ R.1 28 j = s then (if (R.1 32 j &&& 4) = 0 then 0 else 1) else slF (R.1 36) (R.1 28) (R.1 32) s j := rfl
    conv => lhs; unfold f_X10_latestGoodSold_4 f_X10_latestGoodSold_46
    unfold mI
    rw [h1, if_neg (nI_ge hj (by omega)), ckI (by omega) (by omega), ckI (by omega) (by omega), clI (by omega), h4 j hj, h5, hs, bi_, hl, add1, b1]
    by_cases z1 : R.1 36 j = 0
    · rw [if_pos z1, if_neg (fun q => q.1 z1)]
    · rw [if_neg z1]
      by_cases z2 : R.1 28 j = s
      · rw [if_pos z2, if_pos (show ¬ R.1 36 j = 0 ∧ R.1 28 j = s from ⟨z1, z2⟩)]
      · rw [if_neg z2, if_neg (fun q => z2 q.2)]
  · intro m
    show f_X10_latestGoodSold_4 (m + 1) _ _ (nI t) _ = _
    unfold f_X10_latestGoodSold_4 mI
    rw [h1, if_pos (nI_le (by omega) (by omega)), bzx (slF01 _ _ _ _ _)]
theorem lat_r {R : mm_M} {t : Nat} (ht : R.1 0 43 = nI t) (ht1 : t ≤ 100) (a s : Int32) (K : Int32 → Int32 → Int32 → mm_M → Option (Int64 × mm_M)) : f_X12_back_71 K mm_fu a s (-1) (nI 0) R = K a s (laF (R.1 36) (R.1 28) s t) R := by
  refine lpf (fun m j => f_X12_back_71 K m a s (laF (R.1 36) (R.1 28) s j) (nI j) R) (c := t) (by omega) ?_ ?_
  · intro j m hj
    show f_X12_back_71 K (m + 1) _ _ _ _ _ = f_X12_back_71 K m _ _ _ _ _
    have hl : laF (R.1 36) (R.1 28) s (j + 1) = if ¬ R.1 36 j = 0 ∧ R.1 28 j = s then nI j else laF (R.1 36) (R.1 28) s j := rfl
    conv => lhs; unfold f_X12_back_71 f_X12_back_106 f_X12_back_107
    unfold mI
    rw [ht, if_neg (nI_ge hj (by omega)), ckI (by omega) (by omega), ckI (by omega) (by omega), clI (by omega), hl, add1]
    by_cases z2 : R.1 28 j = s
    · rw [if_pos z2]
      by_cases z1 : R.1 36 j = 0
      · rw [if_pos z1, if_neg (fun q => q.1 z1)]
      · rw [if_neg z1, if_pos ⟨z1, z2⟩]
    · rw [if_neg z2, if_neg (fun q => z2 q.2)]
  · intro m
    show f_X12_back_71 K (m + 1) _ _ _ (nI t) _ = _
    unfold f_X12_back_71 mI
    rw [ht, if_pos (nI_le (by omega) (by omega))]

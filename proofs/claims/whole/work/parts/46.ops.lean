/-- sums over the first m -/
def gsum (f : Nat → Nat) : Nat → Nat
  | 0 => 0
  | m + 1 => gsum f m + f m
theorem gsum_s (f : Nat → Nat) (m : Nat) : gsum f (m + 1) = gsum f m + f m := rfl
theorem gsum_eq {f g : Nat → Nat} {m : Nat} (h : ∀ i, i < m → f i = g i) : gsum f m = gsum g m := by
  induction m with
  | zero => rfl
  | succ m ih => rw [gsum_s, gsum_s, ih (fun i hi => h i (by omega)), h m (by omega)]
theorem gsum_le {f g : Nat → Nat} {m : Nat} (h : ∀ i, i < m → f i ≤ g i) : gsum f m ≤ gsum g m := by
  induction m with
  | zero => exact Nat.le_refl _
  | succ m ih =>
    have h1 := ih (fun i hi => h i (by omega))
    have h2 := h m (by omega)
    rw [gsum_s, gsum_s]
    omega
theorem gsum_add (f g : Nat → Nat) (m : Nat) : gsum (fun i => f i + g i) m = gsum f m + gsum g m := by
  induction m with
  | zero => rfl
  | succ m ih =>
    rw [gsum_s, gsum_s, gsum_s, ih]
    omega
theorem gsum_mul (f : Nat → Nat) (c m : Nat) : gsum (fun i => c * f i) m = c * gsum f m := by
  induction m with
  | zero => rfl
  | succ m ih => rw [gsum_s, gsum_s, ih, Nat.mul_add]
theorem gsum_mono (f : Nat → Nat) {a b : Nat} (h : a ≤ b) : gsum f a ≤ gsum f b := by
  induction b with
  | zero =>
    obtain rfl : a = 0 := by omega
    exact Nat.le_refl _
  | succ b ih =>
    by_cases e : a = b + 1
    · subst e
      exact Nat.le_refl _
    · have := ih (by omega)
      rw [gsum_s]
      omega
theorem gsum_0 {f : Nat → Nat} {m : Nat} (h : gsum f m = 0) : ∀ i, i < m → f i = 0 := by
  induction m with
  | zero => exact fun i hi => absurd hi (by omega)
  | succ m ih =>
    intro i hi
    rw [gsum_s] at h
    by_cases e : i = m
    · subst e
      omega
    · exact ih (by omega) i (by omega)
theorem gsum_z {f : Nat → Nat} {m : Nat} (h : ∀ i, i < m → f i = 0) : gsum f m = 0 := by
  induction m with
  | zero => rfl
  | succ m ih => rw [gsum_s, ih (fun i hi => h i (by omega)), h m (by omega)]
theorem gsum_bd {f : Nat → Nat} {m c : Nat} (h : ∀ i, i < m → f i ≤ c) : gsum f m ≤ m * c := by
  induction m with
  | zero => exact Nat.zero_le _
  | succ m ih =>
    have h1 := ih (fun i hi => h i (by omega))
    have h2 := h m (by omega)
    rw [gsum_s, Nat.succ_mul]
    omega

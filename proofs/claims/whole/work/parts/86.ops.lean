/-! chances -/
def ch : Nat → Nat → Nat
  | _, 0 => 1
  | 0, _ + 1 => 0
  | n + 1, k + 1 => ch n k + ch n (k + 1)
theorem ch_0 (n : Nat) : ch n 0 = 1 := by
  cases n <;> rfl
theorem ch_s (n k : Nat) : ch (n + 1) (k + 1) = ch n k + ch n (k + 1) := rfl
theorem ch_big : ∀ (n k : Nat), n < k → ch n k = 0 := by
  intro n
  induction n with
  | zero =>
    intro k hk
    obtain ⟨k, rfl⟩ : ∃ q, k = q + 1 := ⟨k - 1, by omega⟩
    rfl
  | succ n ih =>
    intro k hk
    obtain ⟨k, rfl⟩ : ∃ q, k = q + 1 := ⟨k - 1, by omega⟩
    rw [ch_s, ih k (by omega), ih (k + 1) (by omega)]
theorem ch_le : ∀ (n k : Nat), ch n k ≤ 2 ^ n := by
  intro n
  induction n with
  | zero =>
    intro k
    cases k with
    | zero => exact Nat.le_refl _
    | succ k => exact Nat.zero_le _
  | succ n ih =>
    intro k
    cases k with
    | zero =>
      rw [ch_0]
      exact Nat.one_le_two_pow
    | succ k =>
      have h1 := ih k
      have h2 := ih (k + 1)
      rw [ch_s, Nat.pow_succ]
      omega
theorem ch_pos : ∀ (n k : Nat), k ≤ n → 0 < ch n k := by
  intro n
  induction n with
  | zero =>
    intro k hk
    obtain rfl : k = 0 := by omega
    exact Nat.one_pos
  | succ n ih =>
    intro k hk
    cases k with
    | zero => rw [ch_0]; exact Nat.one_pos
    | succ k =>
      have := ih k (by omega)
      rw [ch_s]
      omega
theorem ch_abs : ∀ (n k : Nat), (k + 1) * ch (n + 1) (k + 1) = (n + 1) * ch n k := by
  intro n
  induction n with
  | zero =>
    intro k
    cases k with
    | zero => rfl
    | succ k =>
      show (k + 1 + 1) * (ch 0 (k + 1) + ch 0 (k + 1 + 1)) = (0 + 1) * ch 0 (k + 1)
      rw [ch_big 0 (k + 1) (by omega), ch_big 0 (k + 1 + 1) (by omega)]
      rfl
  | succ n ih =>
    intro k
    cases k with
    | zero =>
      have h := ih 0
      rw [ch_s, ch_0]
      rw [ch_0] at h
      omega
    | succ j =>
      have h1 := ih j
      have h2 := ih (j + 1)
      have h3 : ch (n + 1) (j + 1) = ch n j + ch n (j + 1) := rfl
      rw [ch_s (n + 1) (j + 1), Nat.mul_add, h2, show (j + 1 + 1) * ch (n + 1) (j + 1) = (j + 1) * ch (n + 1) (j + 1) + ch (n + 1) (j + 1) by rw [Nat.succ_mul], h1, show (n + 1 + 1) * ch (n + 1) (j + 1) = (n + 1) * ch (n + 1) (j + 1) + ch (n + 1) (j + 1) by rw [Nat.succ_mul], h3, Nat.mul_add]
      omega
def fac : Nat → Nat
  | 0 => 1
  | n + 1 => (n + 1) * fac n
theorem fac_pos : ∀ n, 0 < fac n := by
  intro n
  induction n with
  | zero => exact Nat.one_pos
  | succ n ih => exact Nat.mul_pos (Nat.succ_pos n) ih
theorem ch_fac (b : Nat) : ∀ a, ch (a + b) a * (fac a * fac b) = fac (a + b) := by
  intro a
  induction a with
  | zero =>
    rw [ch_0, Nat.one_mul, Nat.zero_add]
    show 1 * fac b = fac b
    omega
  | succ a ih =>
    have h := ch_abs (a + b) a
    have e1' : a + 1 + b = a + b + 1 := by omega
    rw [e1']
    show ch (a + b + 1) (a + 1) * ((a + 1) * fac a * fac b) = (a + b + 1) * fac (a + b)
    rw [← ih, ← Nat.mul_assoc (a + b + 1), ← h, Nat.mul_assoc (a + 1) (fac a), ← Nat.mul_assoc, Nat.mul_comm (ch (a + b + 1) (a + 1))]
theorem mul4 (p q r s : Nat) : (p * q) * (r * s) = (p * r) * (q * s) := by
  rw [Nat.mul_assoc, Nat.mul_assoc, ← Nat.mul_assoc q r s, ← Nat.mul_assoc r q s, Nat.mul_comm q r]
/-- a table's chance, counted by rows or by columns -/
theorem hyper (i a y z : Nat) : (ch (i + a) i * ch (y + z) y) * ch (i + a + (y + z)) (i + a) = (ch (i + y) i * ch (a + z) a) * ch (i + y + (a + z)) (i + y) := by
  have l1' := ch_fac a i
  have l2' := ch_fac z y
  have l3' := ch_fac (y + z) (i + a)
  have r1' := ch_fac y i
  have r2' := ch_fac z a
  have r3' := ch_fac (a + z) (i + y)
  have hp : 0 < (fac i * fac a) * (fac y * fac z) := Nat.mul_pos (Nat.mul_pos (fac_pos i) (fac_pos a)) (Nat.mul_pos (fac_pos y) (fac_pos z))
  refine Nat.eq_of_mul_eq_mul_right hp ?_
  have L : (ch (i + a) i * ch (y + z) y) * ch (i + a + (y + z)) (i + a) * ((fac i * fac a) * (fac y * fac z)) = fac (i + a + (y + z)) := by
    rw [Nat.mul_right_comm, mul4, l1', l2', Nat.mul_comm, l3']
  have Rr : (ch (i + y) i * ch (a + z) a) * ch (i + y + (a + z)) (i + y) * ((fac i * fac a) * (fac y * fac z)) = fac (i + y + (a + z)) := by
    rw [Nat.mul_right_comm, mul4 (fac i) (fac a) (fac y) (fac z), mul4, r1', r2', Nat.mul_comm, r3']
  rw [L, Rr]
  congr 1
  omega
theorem hyper2 {n1 n2 s i : Nat} (h1 : i ≤ n1) (h2 : i ≤ s) (hs : s ≤ n1 + n2) : (ch n1 i * ch n2 (s - i)) * ch (n1 + n2) n1 = (ch s i * ch (n1 + n2 - s) (n1 - i)) * ch (n1 + n2) s := by
  by_cases h : s - i ≤ n2
  · have := hyper i (n1 - i) (s - i) (n2 - (s - i))
    rw [show i + (n1 - i) = n1 by omega, show s - i + (n2 - (s - i)) = n2 by omega, show i + (s - i) = s by omega, show n1 - i + (n2 - (s - i)) = n1 + n2 - s by omega, show s + (n1 + n2 - s) = n1 + n2 by omega] at this
    exact this
  · rw [ch_big n2 (s - i) (by omega), ch_big (n1 + n2 - s) (n1 - i) (by omega), Nat.mul_zero, Nat.mul_zero, Nat.zero_mul, Nat.zero_mul]
theorem frac_eq {A B A' B' : Nat} (hB : 0 < B) (hB' : 0 < B') (h : A * B' = A' * B) : A / Nat.gcd A B = A' / Nat.gcd A' B' ∧ B / Nat.gcd A B = B' / Nat.gcd A' B' := by
  have g1 : 0 < Nat.gcd A B := Nat.gcd_pos_of_pos_right A hB
  have g2 : 0 < Nat.gcd A' B' := Nat.gcd_pos_of_pos_right A' hB'
  have c1 : Nat.Coprime (A / Nat.gcd A B) (B / Nat.gcd A B) := Nat.coprime_div_gcd_div_gcd g1
  have c2 : Nat.Coprime (A' / Nat.gcd A' B') (B' / Nat.gcd A' B') := Nat.coprime_div_gcd_div_gcd g2
  have eA : A / Nat.gcd A B * Nat.gcd A B = A := Nat.div_mul_cancel (Nat.gcd_dvd_left A B)
  have eB : B / Nat.gcd A B * Nat.gcd A B = B := Nat.div_mul_cancel (Nat.gcd_dvd_right A B)
  have eA' : A' / Nat.gcd A' B' * Nat.gcd A' B' = A' := Nat.div_mul_cancel (Nat.gcd_dvd_left A' B')
  have eB' : B' / Nat.gcd A' B' * Nat.gcd A' B' = B' := Nat.div_mul_cancel (Nat.gcd_dvd_right A' B')
  generalize A / Nat.gcd A B = a at *
  generalize B / Nat.gcd A B = b at *
  generalize A' / Nat.gcd A' B' = a' at *
  generalize B' / Nat.gcd A' B' = b' at *
  generalize Nat.gcd A B = g at *
  generalize Nat.gcd A' B' = g' at *
  have key : a * b' = a' * b := by
    refine Nat.eq_of_mul_eq_mul_right (Nat.mul_pos g1 g2) ?_
    rw [mul4 a b' g g', eA, eB', Nat.mul_comm g g', mul4 a' b g' g, eA', eB]
    exact h
  have hb : 0 < b := Nat.pos_of_ne_zero (fun z => by rw [z, Nat.zero_mul] at eB; omega)
  have hb' : 0 < b' := Nat.pos_of_ne_zero (fun z => by rw [z, Nat.zero_mul] at eB'; omega)
  have d1 : b ∣ b' := c1.symm.dvd_of_dvd_mul_left (by rw [key]; exact Nat.dvd_mul_left b a')
  have d2 : b' ∣ b := c2.symm.dvd_of_dvd_mul_left (by rw [← key]; exact Nat.dvd_mul_left b' a)
  have ebb : b = b' := Nat.dvd_antisymm d1 d2
  refine ⟨?_, ebb⟩
  rw [ebb] at key
  exact Nat.eq_of_mul_eq_mul_right hb' key

/-! sets of stops, as numbers -/
def rv (W c : Nat) : Nat := gsum (fun i => c / 2 ^ (W - 1 - i) % 2 * 2 ^ i) W
def rvp (W c m : Nat) : Nat := gsum (fun i => c / 2 ^ (W - 1 - i) % 2 * 2 ^ i) m
def pc (c : Nat) : Nat := gsum (fun i => c / 2 ^ i % 2) 8
theorem rv_1 : ∀ W, W < 9 → ∀ c, c < 2 ^ W → rv W c < 2 ^ W := by decide +kernel
theorem rv_2 : ∀ W, W < 9 → ∀ c, c < 2 ^ W → ∀ i, i < W → rv W c / 2 ^ i % 2 = c / 2 ^ (W - 1 - i) % 2 := by decide +kernel
theorem rv_3 : ∀ W, W < 9 → ∀ c, c < 2 ^ W → ∀ i, i < W → c / 2 ^ (W - 1 - i) % 2 = 1 → rv W (c - 2 ^ (W - 1 - i)) = rv W c - 2 ^ i ∧ 2 ^ (W - 1 - i) ≤ c ∧ 2 ^ i ≤ rv W c := by decide +kernel
theorem rv_4 : ∀ W, W < 9 → ∀ c, c < 2 ^ W → rv W (2 ^ W - 1 - c) = 2 ^ W - 1 - rv W c := by decide +kernel
theorem rv_5 : ∀ W, W < 9 → ∀ c, c < 2 ^ W → (rv W c = 0 ↔ c = 0) := by decide +kernel
theorem rv_6 : ∀ W, W < 9 → ∀ c, c < 2 ^ W → pc (rv W c) = pc c := by decide +kernel
theorem sh_W : ∀ W, W < 9 → (1 : Int32) <<< (nI W &&& 31) = nI (2 ^ W) := by decide +kernel
theorem sh_i : ∀ W, W < 9 → ∀ i, i < W → (1 : Int32) <<< (((nI W - 1) - nI i) &&& 31) = nI (2 ^ (W - 1 - i)) := by decide +kernel
theorem and_j : ∀ c, c < 256 → ∀ j, j < 8 → (nI c &&& nI (2 ^ j) = 0 ↔ c / 2 ^ j % 2 = 0) := by decide +kernel
theorem shr_i : ∀ s, s < 256 → ∀ i, i < 8 → ((nI s >>> (nI i &&& 31)) &&& 1 = 1 ↔ s / 2 ^ i % 2 = 1) := by decide +kernel
theorem clr_i : ∀ s, s < 256 → ∀ i, i < 8 → s / 2 ^ i % 2 = 1 → nI s &&& (((1 : Int32) <<< (nI i &&& 31)) ^^^ -1) = nI (s - 2 ^ i) := by decide +kernel
theorem rvp_s : ∀ W, W < 9 → ∀ c, c < 2 ^ W → ∀ i, i < W → nI (rvp W c i) ||| (((nI c >>> (((nI W - 1) - nI i) &&& 31)) &&& 1) <<< (nI i &&& 31)) = nI (rvp W c (i + 1)) := by decide +kernel
theorem cpl : ∀ W, W < 9 → ∀ s, s < 2 ^ W → (nI (2 ^ W) - 1) &&& (nI s ^^^ -1) = nI (2 ^ W - 1 - s) := by decide +kernel
theorem or_i : ∀ i, i < 8 → ∀ a, a < 2 ^ i → nI a ||| ((1 : Int32) <<< (nI i &&& 31)) = nI (a + 2 ^ i) := by decide +kernel
theorem pc_c : ∀ c, c < 256 → ∀ v1 v2 v3 v4 v5 : Int32, v1 = nI c - (((nI c).toUInt32 >>> (((1 : Int32)).toUInt32 &&& Int32.toUInt32 31)).toInt32 &&& (1431655765 : Int32)) → v2 = (v1 &&& (858993459 : Int32)) + (((v1).toUInt32 >>> (((2 : Int32)).toUInt32 &&& Int32.toUInt32 31)).toInt32 &&& (858993459 : Int32)) → v3 = (v2 + (((v2).toUInt32 >>> (((4 : Int32)).toUInt32 &&& Int32.toUInt32 31)).toInt32)) &&& (252645135 : Int32) → v4 = v3 + (((v3).toUInt32 >>> (((8 : Int32)).toUInt32 &&& Int32.toUInt32 31)).toInt32) → v5 = v4 + (((v4).toUInt32 >>> (((16 : Int32)).toUInt32 &&& Int32.toUInt32 31)).toInt32) → v5 &&& (63 : Int32) = nI (pc c) := by
  have key : ∀ c, c < 256 → (let v1 : Int32 := nI c - (((nI c).toUInt32 >>> (((1 : Int32)).toUInt32 &&& Int32.toUInt32 31)).toInt32 &&& (1431655765 : Int32)); let v2 : Int32 := (v1 &&& (858993459 : Int32)) + (((v1).toUInt32 >>> (((2 : Int32)).toUInt32 &&& Int32.toUInt32 31)).toInt32 &&& (858993459 : Int32)); let v3 : Int32 := (v2 + (((v2).toUInt32 >>> (((4 : Int32)).toUInt32 &&& Int32.toUInt32 31)).toInt32)) &&& (252645135 : Int32); let v4 : Int32 := v3 + (((v3).toUInt32 >>> (((8 : Int32)).toUInt32 &&& Int32.toUInt32 31)).toInt32); let v5 : Int32 := v4 + (((v4).toUInt32 >>> (((16 : Int32)).toUInt32 &&& Int32.toUInt32 31)).toInt32); v5 &&& (63 : Int32)) = nI (pc c) := by decide +kernel
  intro c hc v1 v2 v3 v4 v5 h1 h2 h3 h4 h5
  subst h1 h2 h3 h4 h5
  exact key c hc
theorem bitC {c : Nat} (hc : c < 256) (M : mm_M) : f_J6_bitCount_0f7a4 (nI c) M = some (nI (pc c), M) := by
  unfold f_J6_bitCount_0f7a4
  rw [let_, let_, let_, let_, let_, pc_c c hc _ _ _ _ _ rfl rfl rfl rfl rfl]
theorem pc_2 : ∀ s, s < 256 → pc s = s % 2 + pc (s / 2) := by decide +kernel
theorem ones_l (M : mm_M) : ∀ (m s x n : Nat), s < 2 ^ m → m ≤ 8 → m < n → f_X12_ones_4 n (nI x) (nI s) M = some (nI (x + pc s), M) := by
  intro m
  induction m with
  | zero =>
    intro s x n hs hm hn
    obtain ⟨n, rfl⟩ : ∃ q, n = q + 1 := ⟨n - 1, by omega⟩
    obtain rfl : s = 0 := by omega
    unfold f_X12_ones_4
    rw [if_pos (show nI 0 ≤ 0 by decide +kernel)]
    rfl
  | succ m ih =>
    intro s x n hs hm hn
    obtain ⟨n, rfl⟩ : ∃ q, n = q + 1 := ⟨n - 1, by omega⟩
    have hs256 : s < 256 := by
      have : 2 ^ (m + 1) ≤ 2 ^ 8 := Nat.pow_le_pow_right (by omega) hm
      omega
    unfold f_X12_ones_4
    by_cases e : s = 0
    · subst e
      rw [if_pos (show nI 0 ≤ 0 by decide +kernel)]
      rfl
    · rw [if_neg (nI_nle (by omega) (by omega)), let_, let_, show nI s - nI s / 2 * 2 = nI (s % 2) from pk_rem (d := 2) (by omega) (by omega) (by omega), show nI s / 2 = nI (s / 2) from pk_div (d := 2) (by omega) (by omega) (by omega), nI_add, ih (s / 2) (x + s % 2) n (by rw [Nat.pow_succ] at hs; omega) (by omega) (by omega), pc_2 s hs256, Nat.add_assoc]
theorem ones_ok {s : Nat} (hs : s < 256) (M : mm_M) : f_X12_ones (nI s) M = some (nI (pc s), M) := by
  unfold f_X12_ones
  have := ones_l M 8 s 0 mm_fu hs (by omega) (fuGt (by omega))
  rw [Nat.zero_add] at this
  exact this

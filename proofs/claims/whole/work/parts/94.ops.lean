/-! the class's ways and times -/
def VOk (W : Nat) (px py : Nat → Nat) (V : Nat → Nat → Nat) : Prop := ∀ s, s < 2 ^ W → ∀ l, vl W l → V s l ≤ 40000 ∧ (s = 0 → V s l = Lg px py l 8) ∧ (s ≠ 0 → V s l = mnF s (fun i => Lg px py l i + V (s - 2 ^ i) i) W)
def tOf (V : Nat → Nat → Nat) (s : Nat) : Nat := if s = 0 then 0 else V s 8 + 10 * pc s
theorem V_of {W : Nat} {px py : Nat → Nat} {row : Nat → Int32} (hW : W ≤ 8) (h : wOk W px py row (2 ^ W)) : VOk W px py (fun s l => nN (row (9 * s + l))) ∧ ∀ s, s < 2 ^ W → ∀ l, vl W l → row (9 * s + l) = nI (nN (row (9 * s + l))) := by
  have h256 := w256 hW
  constructor
  · intro s hs l hl
    obtain ⟨v, v1, v2, v3, v4⟩ := h s hs l hl
    show nN (row (9 * s + l)) ≤ 40000 ∧ (s = 0 → nN (row (9 * s + l)) = _) ∧ (s ≠ 0 → nN (row (9 * s + l)) = _)
    rw [v1, nN_nI (by omega)]
    exact ⟨by omega, v3, v4⟩
  · intro s hs l hl
    obtain ⟨v, v1, v2, _⟩ := h s hs l hl
    rw [v1, nN_nI (by omega)]
theorem bit_c {W : Nat} {px py sh : Nat → Nat} {C : mm_M} (h : plC W px py sh C) {i : Nat} (hi : i < W) : f_X4_bit (nI i) C = some (nI (2 ^ (W - 1 - i)), C) := by
  have := h.2.1
  unfold f_X4_bit mI
  rw [h.1, sh_i W (by omega) i hi]
theorem all_c {W : Nat} {px py sh : Nat → Nat} {C : mm_M} (h : plC W px py sh C) : f_X4_all C = some (nI (2 ^ W - 1), C) := by
  have := h.2.1
  unfold f_X4_all mI
  rw [h.1, sh_W W (by omega), show nI (2 ^ W) - 1 = nI (2 ^ W - 1) from pk_sub (b := 1) Nat.one_le_two_pow]
theorem mil : (1000000 : Int32) = nI 1000000 := by decide +kernel
theorem min_i {a b : Nat} (ha : a < 2 ^ 31) (hb : b < 2 ^ 31) : (if nI a < nI b then nI a else nI b) = nI (if a < b then a else b) := by
  by_cases e : a < b
  · rw [if_pos e, if_pos ((nI_ltI ha hb).mpr e)]
  · rw [if_neg e, if_neg (fun z => e ((nI_ltI ha hb).mp z))]
theorem sto_c {W : Nat} {px py sh : Nat → Nat} {V : Nat → Nat → Nat} {C : mm_M} (h : plC W px py sh C) (hV : VOk W px py V) (hL : ∀ a b, vl W a → vl W b → Lg px py a b ≤ 120) {l b : Nat} (hl : vl W l) (hb : b < 2 ^ W) (hw : ∀ i, i < W → b / 2 ^ (W - 1 - i) % 2 = 1 → C.1 64 (b * 8 + i) = nI (V (rv W b - 2 ^ i) i)) : f_X4_shortestTo (nI l) (nI b) C = some (nI (V (rv W b) l), C) := by
  have hW := h.2.1
  have h256 := w256 hW
  have hr := rv_1 W (by omega) b hb
  unfold f_X4_shortestTo
  by_cases b0 : b = 0
  · have z : rv W b = 0 := (rv_5 W (by omega) b hb).mpr b0
    rw [if_pos (show nI b = 0 by rw [b0]; rfl), show f_X4_leg 8 (nI l) C = _ from leg_c h (a := 8) (b := l) (Or.inr rfl) hl, bi_, (hV _ hr l hl).2.1 z, Lg_comm]
  · have z : rv W b ≠ 0 := fun q => b0 ((rv_5 W (by omega) b hb).mp q)
    rw [if_neg (nI_ne0 (by omega) (by omega)), mil, (hV _ hr l hl).2.2 z]
    refine lpf (fun n i => f_X4_shortestTo_18 n (nI l) (nI b) (nI (mnF (rv W b) (fun i => Lg px py l i + V (rv W b - 2 ^ i) i) i)) (nI i) C) (c := W) (by omega) ?_ ?_
    · intro i n hi
      show f_X4_shortestTo_18 (n + 1) _ _ _ _ _ = f_X4_shortestTo_18 n _ _ _ _ _
      have hm : mnF (rv W b) (fun i => Lg px py l i + V (rv W b - 2 ^ i) i) (i + 1) = if rv W b / 2 ^ i % 2 = 1 then (if Lg px py l i + V (rv W b - 2 ^ i) i < mnF (rv W b) (fun i => Lg px py l i + V (rv W b - 2 ^ i) i) i then Lg px py l i + V (rv W b - 2 ^ i) i else mnF (rv W b) (fun i => Lg px py l i + V (rv W b - 2 ^ i) i) i) else mnF (rv W b) (fun i => Lg px py l i + V (rv W b - 2 ^ i) i) i := rfl
      have htop := mnF_top (s := rv W b) (f := fun i => Lg px py l i + V (rv W b - 2 ^ i) i) i
      generalize mnF (rv W b) (fun i => Lg px py l i + V (rv W b - 2 ^ i) i) i = m at hm htop ⊢
      rw [hm, rv_2 W (by omega) b hb i hi]
      conv => lhs; unfold f_X4_shortestTo_18 f_X4_shortestTo_63
      rw [show mI C 10 7 = nI W from h.1, if_neg (nI_ge hi (by omega)), bit_c h hi, bi_, add1]
      have hand := and_j b (by omega) (W - 1 - i) (by omega)
      by_cases e : b / 2 ^ (W - 1 - i) % 2 = 1
      · have hv := (hV (rv W b - 2 ^ i) (Nat.lt_of_le_of_lt (Nat.sub_le _ _) hr) i (Or.inl hi)).1
        have hll := hL l i hl (Or.inl hi)
        rw [if_neg (fun q => by have := hand.mp q; omega), if_pos e, l8, pk_mul, nI_add, ckI (by omega) (by omega), leg_c h (Or.inl hi) hl, bi_, let_, clI (by omega), show mI C 64 (b * 8 + i) = _ from hw i hi e, nI_add, Lg_comm px py i l, Nat.add_comm (V (rv W b - 2 ^ i) i), min_i (by omega) (by omega)]
      · rw [if_pos (hand.mpr (by omega)), if_neg e]
    · intro n
      show f_X4_shortestTo_18 (n + 1) _ _ _ (nI W) _ = _
      unfold f_X4_shortestTo_18 mI
      rw [h.1, if_pos (nI_le (by omega) (by omega))]
theorem plC_k {W : Nat} {px py sh : Nat → Nat} {C C' : mm_M} (h : plC W px py sh C) (g : C'.1 10 7 = C.1 10 7 ∧ C'.1 61 = C.1 61 ∧ C'.1 62 = C.1 62 ∧ C'.1 63 = C.1 63) : plC W px py sh C' := by
  unfold plC at *
  rw [g.1, g.2.1, g.2.2.1, g.2.2.2]
  exact h
def wsOk (W : Nat) (V : Nat → Nat → Nat) (row : Nat → Int32) (c : Nat) : Prop := ∀ i, i < W → c / 2 ^ (W - 1 - i) % 2 = 1 → row (c * 8 + i) = nI (V (rv W c - 2 ^ i) i)
theorem rt29 {W : Nat} {px py sh : Nat → Nat} {V : Nat → Nat → Nat} {C : mm_M} (h : plC W px py sh C) (hV : VOk W px py V) (hL : ∀ a b, vl W a → vl W b → Lg px py a b ≤ 120) {c : Nat} (hc : c < 2 ^ W) (c0 : c ≠ 0) (hw : ∀ b, b < c → wsOk W V (C.1 64) b) (K : Int32 → Int32 → mm_M → Option mm_M) : ∃ C', f_X4_reckonTimes_29 K mm_fu (nI c) 1000000 0 C = K (nI c) (nI (V (rv W c) 8)) C' ∧ (∀ a, a ≠ 64 → C'.1 a = C.1 a) ∧ ∀ b, b < c + 1 → wsOk W V (C'.1 64) b := by
  have hW := h.2.1
  have h256 := w256 hW
  have hr := rv_1 W (by omega) c hc
  have hz : rv W c ≠ 0 := fun q => c0 ((rv_5 W (by omega) c hc).mp q)
  have hv8 := (hV _ hr 8 (Or.inr rfl)).2.2 hz
  have key : ∃ C', f_X4_reckonTimes_29 K mm_fu (nI c) 1000000 0 C = K (nI c) (nI (V (rv W c) 8)) C' ∧ (∀ a, a ≠ 64 → C'.1 a = C.1 a) ∧ (∀ x, x < c * 8 → C'.1 64 x = C.1 64 x) ∧ ∀ i, i < W → c / 2 ^ (W - 1 - i) % 2 = 1 → C'.1 64 (c * 8 + i) = nI (V (rv W c - 2 ^ i) i) := by
    rw [mil, hv8]
    refine lpMf (fun n l X => f_X4_reckonTimes_29 K n (nI c) (nI (mnF (rv W c) (fun i => Lg px py 8 i + V (rv W c - 2 ^ i) i) l)) (nI l) X) (fun l X => (∀ a, a ≠ 64 → X.1 a = C.1 a) ∧ (∀ x, x < c * 8 → X.1 64 x = C.1 64 x) ∧ ∀ i, i < l → c / 2 ^ (W - 1 - i) % 2 = 1 → X.1 64 (c * 8 + i) = nI (V (rv W c - 2 ^ i) i)) (fun b => ∃ C', b = K (nI c) (nI (mnF (rv W c) (fun i => Lg px py 8 i + V (rv W c - 2 ^ i) i) W)) C' ∧ (∀ a, a ≠ 64 → C'.1 a = C.1 a) ∧ (∀ x, x < c * 8 → C'.1 64 x = C.1 64 x) ∧ ∀ i, i < W → c / 2 ^ (W - 1 - i) % 2 = 1 → C'.1 64 (c * 8 + i) = nI (V (rv W c - 2 ^ i) i)) (c := W) C (by omega) ⟨fun _ _ => rfl, fun _ _ => rfl, fun i hi => absurd hi (by omega)⟩ ?_ ?_
    · intro l n X hl hI ih
      obtain ⟨i1, i2, i3⟩ := hI
      have hX : plC W px py sh X := plC_k h ⟨by rw [i1 10 (by omega)], i1 61 (by omega), i1 62 (by omega), i1 63 (by omega)⟩
      have hm : mnF (rv W c) (fun i => Lg px py 8 i + V (rv W c - 2 ^ i) i) (l + 1) = if rv W c / 2 ^ l % 2 = 1 then (if Lg px py 8 l + V (rv W c - 2 ^ l) l < mnF (rv W c) (fun i => Lg px py 8 i + V (rv W c - 2 ^ i) i) l then Lg px py 8 l + V (rv W c - 2 ^ l) l else mnF (rv W c) (fun i => Lg px py 8 i + V (rv W c - 2 ^ i) i) l) else mnF (rv W c) (fun i => Lg px py 8 i + V (rv W c - 2 ^ i) i) l := rfl
      have htop := mnF_top (s := rv W c) (f := fun i => Lg px py 8 i + V (rv W c - 2 ^ i) i) l
      show ∃ C', f_X4_reckonTimes_29 K (n + 1) (nI c) (nI (mnF (rv W c) (fun i => Lg px py 8 i + V (rv W c - 2 ^ i) i) l)) (nI l) X = _ ∧ _
      replace ih : ∀ X', _ → ∃ C', f_X4_reckonTimes_29 K n (nI c) (nI (mnF (rv W c) (fun i => Lg px py 8 i + V (rv W c - 2 ^ i) i) (l + 1))) (nI (l + 1)) X' = _ ∧ _ := ih
      rw [hm, rv_2 W (by omega) c hc l hl] at ih
      generalize mnF (rv W c) (fun i => Lg px py 8 i + V (rv W c - 2 ^ i) i) l = m at hm htop ih ⊢
      unfold f_X4_reckonTimes_29 f_X4_reckonTimes_89
      rw [show mI X 10 7 = nI W from hX.1, if_neg (nI_ge hl (by omega)), bit_c hX hl, bi_, add1]
      have hand := and_j c (by omega) (W - 1 - l) (by omega)
      by_cases e : c / 2 ^ (W - 1 - l) % 2 = 1
      · obtain ⟨r1, r2, r3⟩ := rv_3 W (by omega) c hc l hl e
        have hp1 : 1 ≤ 2 ^ l := Nat.one_le_two_pow
        have hp2 : 1 ≤ 2 ^ (W - 1 - l) := Nat.one_le_two_pow
        have hv := (hV (rv W c - 2 ^ l) (by omega) l (Or.inl hl)).1
        have hll := hL 8 l (Or.inr rfl) (Or.inl hl)
        have hs := sto_c hX hV hL (l := l) (b := c - 2 ^ (W - 1 - l)) (Or.inl hl) (by omega) (fun i hi he => by
          rw [i2 _ (by omega)]
          exact hw _ (by omega) i hi he)
        rw [r1] at hs
        rw [if_pos e] at ih
        have hX' : plC W px py sh (sI X 64 (c * 8 + l) (nI (V (rv W c - 2 ^ l) l))) := plC_k hX ⟨by rw [s1, if_neg (by omega)], by rw [s1, if_neg (by omega)], by rw [s1, if_neg (by omega)], by rw [s1, if_neg (by omega)]⟩
        rw [if_neg (fun q => by have := hand.mp q; omega), bit_c hX hl, bi_, pk_sub r2, hs, bi_, l8, pk_mul, nI_add, ckI (by omega) (by omega), let_, clI (by omega), leg_c hX' (Or.inl hl) (Or.inr rfl), bi_, let_, nI_add, Lg_comm px py l 8, Nat.add_comm (V (rv W c - 2 ^ l) l), min_i (by omega) (by omega)]
        refine ih _ ⟨fun a ha => ?_, fun x hx => ?_, fun i hi he => ?_⟩
        · simp only [s1, s2, l1, l2, upd_at, Nat.reduceEqDiff, reduceIte, ha]
          exact i1 a ha
        · have : x ≠ c * 8 + l := by omega
          simp only [s1, s2, l1, l2, upd_at, Nat.reduceEqDiff, reduceIte, this]
          exact i2 x hx
        · by_cases y : i = l
          · subst y
            simp only [s1, s2, l1, l2, upd_at, Nat.reduceEqDiff, reduceIte]
          · have : ¬ (c * 8 + i = c * 8 + l) := by omega
            simp only [s1, s2, l1, l2, upd_at, Nat.reduceEqDiff, reduceIte, this]
            exact i3 i (by omega) he
      · rw [if_neg e] at ih
        rw [if_pos (hand.mpr (by omega))]
        refine ih X ⟨i1, i2, fun i hi he => ?_⟩
        by_cases y : i = l
        · subst y
          exact absurd he e
        · exact i3 i (by omega) he
    · intro n X hI
      show ∃ C', f_X4_reckonTimes_29 K (n + 1) (nI c) _ (nI W) X = _ ∧ _
      unfold f_X4_reckonTimes_29
      rw [show mI X 10 7 = nI W by unfold mI; rw [hI.1 10 (by omega)]; exact h.1, if_pos (nI_le (by omega) (by omega))]
      exact ⟨X, rfl, hI⟩
  obtain ⟨C', g1, g2, g3, g4⟩ := key
  refine ⟨C', g1, g2, fun b hb i hi he => ?_⟩
  by_cases e : b = c
  · subst e
    exact g4 i hi he
  · rw [g3 _ (by omega)]
    exact hw b (by omega) i hi he
def cOk (W : Nat) (V : Nat → Nat → Nat) (C : mm_M) (c : Nat) : Prop := ∀ b, b < c → wsOk W V (C.1 64) b ∧ C.1 65 b = nI (tOf V (rv W b))
theorem times_c {W : Nat} {px py sh : Nat → Nat} {V : Nat → Nat → Nat} {C : mm_M} (h : plC W px py sh C) (hV : VOk W px py V) (hL : ∀ a b, vl W a → vl W b → Lg px py a b ≤ 120) : ∃ C', f_X4_reckonTimes C = some C' ∧ (∀ a, a ≠ 64 → a ≠ 65 → C'.1 a = C.1 a) ∧ cOk W V C' (2 ^ W) := by
  have hW := h.2.1
  have h256 := w256 hW
  have hp1 : 1 ≤ 2 ^ W := Nat.one_le_two_pow
  unfold f_X4_reckonTimes
  rw [show mm_ck (0 : Int32) 256 _ = _ from ckI (j := 0) (by omega) (by omega), let_, show (0 : Int32).toNatClampNeg = 0 from clI (j := 0) (by omega)]
  refine lpM (fun n c X => f_X4_reckonTimes_9 n (nI c) X) (fun c X => 1 ≤ c ∧ (∀ a, a ≠ 64 → a ≠ 65 → X.1 a = C.1 a) ∧ cOk W V X c) (fun b => ∃ C', b = some C' ∧ (∀ a, a ≠ 64 → a ≠ 65 → C'.1 a = C.1 a) ∧ cOk W V C' (2 ^ W)) (c := 2 ^ W) ?_ ?_ (2 ^ W - 1) 1 mm_fu _ (by omega) (fuGt (by omega)) ⟨by omega, fun a h1 h2 => by rw [s1, if_neg h2], fun b hb => ?_⟩
  · intro c n X hc hI ih
    obtain ⟨i0, i1, i2⟩ := hI
    have hX : plC W px py sh X := plC_k h ⟨by rw [i1 10 (by omega) (by omega)], i1 61 (by omega) (by omega), i1 62 (by omega) (by omega), i1 63 (by omega) (by omega)⟩
    obtain ⟨C', g1, g2, g3⟩ := rt29 hX hV hL hc (by omega) (fun b hb => (i2 b hb).1) (f_X4_reckonTimes_95 (f_X4_reckonTimes_9 n))
    show ∃ C', f_X4_reckonTimes_9 (n + 1) (nI c) X = some C' ∧ _
    unfold f_X4_reckonTimes_9
    rw [all_c hX, bi_, if_neg (nI_nlt (by omega) (by omega)), if_neg (show ¬ (256 : Int32) ≤ nI c from nI_ge (b := 256) (by omega) (by omega)), g1]
    unfold f_X4_reckonTimes_95
    rw [bitC (by omega), bi_, ckI (by omega) (by omega), let_, clI (by omega), l10, pk_mul, nI_add, add1]
    refine ih _ ⟨by omega, fun a h1 h2 => ?_, fun b hb => ⟨?_, ?_⟩⟩
    · simp only [s1, s2, l1, l2, upd_at, Nat.reduceEqDiff, reduceIte, h2]
      rw [g2 a h1, i1 a h1 h2]
    · simp only [s1, s2, l1, l2, upd_at, Nat.reduceEqDiff, reduceIte]
      exact g3 b hb
    · by_cases e : b = c
      · subst e
        have hz : rv W b ≠ 0 := fun q => absurd ((rv_5 W (by omega) b hc).mp q) (by omega)
        simp only [s1, s2, l1, l2, upd_at, Nat.reduceEqDiff, reduceIte]
        unfold tOf
        rw [if_neg hz, rv_6 W (by omega) b hc]
      · simp only [s1, s2, l1, l2, upd_at, Nat.reduceEqDiff, reduceIte, e]
        rw [g2 65 (by omega)]
        exact (i2 b (by omega)).2
  · intro n X hI
    obtain ⟨i0, i1, i2⟩ := hI
    have hX : plC W px py sh X := plC_k h ⟨by rw [i1 10 (by omega) (by omega)], i1 61 (by omega) (by omega), i1 62 (by omega) (by omega), i1 63 (by omega) (by omega)⟩
    show ∃ C', f_X4_reckonTimes_9 (n + 1) (nI (2 ^ W)) X = some C' ∧ _
    unfold f_X4_reckonTimes_9
    rw [all_c hX, bi_, if_pos ((nI_ltI (by omega) (by omega)).mpr (by omega))]
    exact ⟨X, rfl, i1, i2⟩
  · obtain rfl : b = 0 := by omega
    have hz := (rv_5 W (by omega) 0 (by omega)).mpr rfl
    refine ⟨fun i hi he => ?_, ?_⟩
    · rw [Nat.zero_div] at he
      omega
    · simp only [s1, s2, l1, l2, upd_at, Nat.reduceEqDiff, reduceIte]
      unfold tOf
      rw [if_pos hz]
      rfl

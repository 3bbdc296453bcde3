/-! both choose alike -/
theorem pc_le (s : Nat) : pc s ≤ 8 := gsum_bd (c := 1) (m := 8) (fun i _ => by omega)
theorem tOf_le {W : Nat} {px py : Nat → Nat} {V : Nat → Nat → Nat} (hV : VOk W px py V) {s : Nat} (hs : s < 2 ^ W) : tOf V s ≤ 50000 := by
  have := (hV s hs 8 (Or.inr rfl)).1
  have := pc_le s
  unfold tOf
  split <;> omega
theorem max_i {a b : Nat} (ha : a < 2 ^ 31) (hb : b < 2 ^ 31) : (if nI a < nI b then nI b else nI a) = nI (if a < b then b else a) := by
  by_cases e : a < b
  · rw [if_pos e, if_pos ((nI_ltI ha hb).mpr e)]
  · rw [if_neg e, if_neg (fun z => e ((nI_ltI ha hb).mp z))]
theorem ls_le {W : Nat} {px py : Nat → Nat} {V : Nat → Nat → Nat} (hW : W ≤ 8) (hV : VOk W px py V) {w : Nat} (hw : w < 2 ^ W) : loF W (tOf V) w ≤ 50000 ∧ soF W (tOf V) w ≤ 50000 := by
  have h1 := tOf_le hV (rv_1 W (by omega) w hw)
  have h2 := tOf_le hV (rv_1 W (by omega) (2 ^ W - 1 - w) (by omega))
  unfold loF soF
  constructor
  · split <;> omega
  · split <;> omega
def dn (W w : Nat) : Int32 := if w < 2 ^ W then nI (2 ^ W - 1 - w) else -1
theorem dn_s {W w : Nat} (hw : w < 2 ^ W) : nI (2 ^ W - 1 - w) + -1 = dn W (w + 1) := by
  unfold dn
  by_cases e : w + 1 < 2 ^ W
  · rw [if_pos e, show 2 ^ W - 1 - w = (2 ^ W - 1 - (w + 1)) + 1 by omega, pk_m1]
  · rw [if_neg e, show 2 ^ W - 1 - w = 0 by omega]
    rfl
theorem plan_c {W : Nat} {px py sh : Nat → Nat} {V : Nat → Nat → Nat} {C : mm_M} {z : Nat} {p q : Nat → Prop} {ok : Nat → Bool} (h : plC W px py sh C) (hV : VOk W px py V) (ht : cOk W V C (2 ^ W)) (hp : ∀ i, i < W → (C.1 66 i = 0 ↔ ¬ p i) ∧ (C.1 67 i = 0 ↔ ¬ q i)) (hz : z ≤ 2000) (hok : ∀ w, w < 2 ^ W → (ok w = true ↔ alP W p q (2 ^ W - 1 - w) ∧ loF W (tOf V) w ≤ z)) (h9 : C.1 10 9 = 0) : ∃ C', f_X4_plan_14 mm_fu (nI z) (nI (2 ^ W - 1)) C = some C' ∧ f10 C C' ∧ cSt W (loF W (tOf V)) (soF W (tOf V)) C' (bst ok (loF W (tOf V)) (soF W (tOf V)) (2 ^ W)) := by
  have hW := h.2.1
  have h256 := w256 hW
  have hp1 : 1 ≤ 2 ^ W := Nat.one_le_two_pow
  have e0' : nI (2 ^ W - 1) = dn W 0 := by
    unfold dn
    rw [if_pos (by omega)]
    rfl
  rw [e0']
  refine lpMf (fun n w X => f_X4_plan_14 n (nI z) (dn W w) X) (fun w X => f10 C X ∧ cSt W (loF W (tOf V)) (soF W (tOf V)) X (bst ok (loF W (tOf V)) (soF W (tOf V)) w)) (fun b => ∃ C', b = some C' ∧ f10 C C' ∧ cSt W (loF W (tOf V)) (soF W (tOf V)) C' (bst ok (loF W (tOf V)) (soF W (tOf V)) (2 ^ W))) (c := 2 ^ W) C (by omega) ⟨⟨fun _ _ => rfl, rfl⟩, h9⟩ ?_ ?_
  · intro w n X hw hI ih
    obtain ⟨i1, i2⟩ := hI
    have hX : plC W px py sh X := plC_k h ⟨i1.2, i1.1 61 (by omega), i1.1 62 (by omega), i1.1 63 (by omega)⟩
    obtain ⟨x, x1, x2, x3⟩ := isAl hX (p := p) (q := q) (c := 2 ^ W - 1 - w) (fun i hi => by rw [i1.1 66 (by omega), i1.1 67 (by omega)]; exact hp i hi) (by omega)
    show ∃ C', f_X4_plan_14 (n + 1) (nI z) (dn W w) X = some C' ∧ _
    unfold f_X4_plan_14 f_X4_plan_67
    rw [show dn W w = nI (2 ^ W - 1 - w) by unfold dn; rw [if_pos hw], if_neg (nI_pos (by omega)), x1, bi_, dn_s hw]
    have hb : bst ok (loF W (tOf V)) (soF W (tOf V)) (w + 1) = nx (ok w) (loF W (tOf V)) (soF W (tOf V)) w (bst ok (loF W (tOf V)) (soF W (tOf V)) w) := rfl
    by_cases al : alP W p q (2 ^ W - 1 - w)
    · have hk : ok w = decide (loF W (tOf V) w ≤ z) := by
        rw [Bool.eq_iff_iff, hok w hw, decide_eq_true_iff]
        exact ⟨And.right, fun y => ⟨al, y⟩⟩
      have hl1 := tOf_le hV (rv_1 W (by omega) w hw)
      have hl2 := tOf_le hV (rv_1 W (by omega) (2 ^ W - 1 - w) (by omega))
      obtain ⟨X', g1, g2, g3⟩ := offer_c (W := W) (w := w) (z := z) (lo := loF W (tOf V)) (so := soF W (tOf V)) (X := X) hz (fun b hb => by
        rcases hb with y | y
        · rw [y]
          exact ls_le hW hV hw
        · exact ls_le hW hV (Nat.lt_trans (bst_lt y) hw)) i2
      rw [if_neg (fun y => (x3.mp y) al), ckI (by omega) (by omega), let_, all_c hX, bi_, pk_sub (by omega), show 2 ^ W - 1 - (2 ^ W - 1 - w) = w by omega, ckI (by omega) (by omega), let_, let_, let_, clI (by omega), clI (by omega), show mI X 65 w = nI (tOf V (rv W w)) by unfold mI; rw [i1.1 65 (by omega)]; exact (ht w hw).2, show mI X 65 (2 ^ W - 1 - w) = nI (tOf V (rv W (2 ^ W - 1 - w))) by unfold mI; rw [i1.1 65 (by omega)]; exact (ht _ (by omega)).2, max_i (by omega) (by omega), min_i (by omega) (by omega), show f_X4_offer (nI (2 ^ W - 1 - w)) (nI (if tOf V (rv W (2 ^ W - 1 - w)) < tOf V (rv W w) then tOf V (rv W w) else tOf V (rv W (2 ^ W - 1 - w)))) (nI (if tOf V (rv W w) < tOf V (rv W (2 ^ W - 1 - w)) then tOf V (rv W w) else tOf V (rv W (2 ^ W - 1 - w)))) (nI z) X = _ from g1, bv_]
      rw [← hk] at g3
      exact ih X' ⟨f10_t i1 g2, by rw [hb]; exact g3⟩
    · have hk : ok w = false := Bool.eq_false_iff.mpr (fun t => al ((hok w hw).mp t).1)
      rw [if_pos (x3.mpr al)]
      exact ih X ⟨i1, by rw [hb, hk, nx_0]; exact i2⟩
  · intro n X hI
    show ∃ C', f_X4_plan_14 (n + 1) (nI z) (dn W (2 ^ W)) X = some C' ∧ _
    unfold f_X4_plan_14 dn
    rw [if_neg (show ¬ 2 ^ W < 2 ^ W by omega), if_pos m1lt]
    exact ⟨X, rfl, hI⟩
theorem tim_r {W : Nat} {px py : Nat → Nat} {V : Nat → Nat → Nat} {R : mm_M} (hW : W ≤ 8) (hV : VOk W px py V) (h46 : ∀ s, s < 2 ^ W → ∀ l, vl W l → R.1 46 (9 * s + l) = nI (V s l)) {s : Nat} (hs : s < 2 ^ W) : f_X12_timeOf (nI s) R = some (nI (tOf V s), R) := by
  have h256 := w256 hW
  unfold f_X12_timeOf tOf
  by_cases e : s = 0
  · rw [if_pos (show nI s = 0 by rw [e]; rfl), if_pos e]
    rfl
  · rw [if_neg (nI_ne0 (by omega) (by omega)), if_neg e, l9, l8, pk_mul, nI_add, ckI (by omega) (by omega), ones_ok (by omega), bi_, clI (by omega), show mI R 46 (9 * s + 8) = _ from h46 s hs 8 (Or.inr rfl), l10, pk_mul, nI_add]
theorem fw117 {W : Nat} {R : mm_M} (h : R.1 0 62 = nI W) (hW : W ≤ 8) {w : Nat} (hw : w < 2 ^ W) (K : Int32 → Int32 → mm_M → Option mm_M) : f_X12_findWork_117 K mm_fu (nI w) 0 0 R = K (nI w) (nI (rv W w)) R := by
  refine lpf (fun n i => f_X12_findWork_117 K n (nI w) (nI (rvp W w i)) (nI i) R) (c := W) (by omega) ?_ ?_
  · intro i n hi
    show f_X12_findWork_117 K (n + 1) _ _ _ _ = f_X12_findWork_117 K n _ _ _ _
    conv => lhs; unfold f_X12_findWork_117
    rw [show mI R 0 62 = nI W from h, if_neg (nI_ge hi (by omega)), let_, rvp_s W (by omega) w hw i hi, add1]
  · intro n
    show f_X12_findWork_117 K (n + 1) _ _ (nI W) _ = _
    unfold f_X12_findWork_117 mI
    rw [h, if_pos (nI_le (by omega) (by omega))]
    rfl
theorem fw198 {W w z : Nat} {T : Nat → Nat} {X : mm_M} {o : Option Nat} {p q : Nat → Prop} {m0 m1 : Nat} {k : Bool} (hW : W ≤ 8) (hw : w < 2 ^ W) (hz : z ≤ 2000) (h60 : X.1 0 60 = nI z) (hm0 : X.1 45 0 = nI m0) (hm1 : X.1 45 1 = nI m1) (hm : ∀ i, i < W → (m0 / 2 ^ i % 2 = 1 ↔ p i) ∧ (m1 / 2 ^ i % 2 = 1 ↔ q i)) (hk : k = true ↔ alP W p q (2 ^ W - 1 - w) ∧ loF W T w ≤ z) (hb : ∀ b, b = w ∨ o = some b → b < 2 ^ W ∧ loF W T b ≤ 50000 ∧ soF W T b ≤ 50000) (hs : rSt W (loF W T) (soF W T) X o) (K : Int32 → mm_M → Option mm_M) : ∃ X', f_X12_findWork_198 K (nI w) (nI (rv W w)) (nI (rv W (2 ^ W - 1 - w))) (nI (T (rv W (2 ^ W - 1 - w)))) (nI (T (rv W w))) (nI (loF W T w)) X = K (nI (w + 1)) X' ∧ f00 X X' ∧ rSt W (loF W T) (soF W T) X' (nx k (loF W T) (soF W T) w o) := by
  have h256 := w256 hW
  have hr1 := rv_1 W (by omega) w hw
  have hr2 := rv_1 W (by omega) (2 ^ W - 1 - w) (by omega)
  have hl := hb w (Or.inl rfl)
  obtain ⟨X', g1, g2, g3⟩ := f242 (W := W) (w := w) (lo := loF W T) (so := soF W T) (X := X) (o := o) (t1 := T (rv W (2 ^ W - 1 - w))) (t2 := T (rv W w)) k (by
    unfold loF soF
    rw [nI_add, pk_sub (by split <;> omega)]
    congr 1
    by_cases a : T (rv W (2 ^ W - 1 - w)) < T (rv W w)
    · rw [if_pos a, if_neg (by omega)]
      omega
    · rw [if_neg a]
      split <;> omega) (fun b e => by have := rv_1 W (by omega) b (hb b (Or.inr e)).1; omega) (fun b e => (hb b e).2) hs K
  have hA := sub_ok (f := rv W (2 ^ W - 1 - w)) (m := m0) (by omega)
  have hB := sub_ok (f := rv W w) (m := m1) (by omega)
  have hAB : (nI (rv W (2 ^ W - 1 - w)) &&& (nI m0 ^^^ -1) = 0 ∧ nI (rv W w) &&& (nI m1 ^^^ -1) = 0) ↔ alP W p q (2 ^ W - 1 - w) := by
    rw [hA, hB]
    constructor
    · intro ⟨a, b⟩ i hi
      obtain ⟨y1, y2⟩ := hm i hi
      have r1 := rv_2 W (by omega) (2 ^ W - 1 - w) (by omega) i hi
      have r2 := rv_2 W (by omega) w hw i hi
      have r3 := cp_b W (by omega) w hw (W - 1 - i) (by omega)
      exact ⟨fun y => y1.mp (a i (by omega) (r1.trans y)), fun y => y2.mp (b i (by omega) (by omega))⟩
    · intro a
      constructor
      · intro i hi y
        by_cases hiW : i < W
        · have r1 := rv_2 W (by omega) (2 ^ W - 1 - w) (by omega) i hiW
          exact (hm i hiW).1.mpr ((a i hiW).1 (r1.symm.trans y))
        · have : 2 ^ W ≤ 2 ^ i := Nat.pow_le_pow_right (n := 2) (by omega) (show W ≤ i by omega)
          rw [Nat.div_eq_of_lt (by omega)] at y
          omega
      · intro i hi y
        by_cases hiW : i < W
        · have r2 := rv_2 W (by omega) w hw i hiW
          have r3 := cp_b W (by omega) w hw (W - 1 - i) (by omega)
          exact (hm i hiW).2.mpr ((a i hiW).2 (by omega))
        · have : 2 ^ W ≤ 2 ^ i := Nat.pow_le_pow_right (n := 2) (by omega) (show W ≤ i by omega)
          rw [Nat.div_eq_of_lt (by omega)] at y
          omega
  unfold f_X12_findWork_198 f_X12_findWork_241
  rw [show mm_ck (0 : Int32) 2 _ = _ from ckI (j := 0) (by omega) (by omega), show mm_ck (1 : Int32) 2 _ = _ from ckI (j := 1) (by omega) (by omega), show (0 : Int32).toNatClampNeg = 0 from clI (j := 0) (by omega), show (1 : Int32).toNatClampNeg = 1 from clI (j := 1) (by omega), show mI X 45 0 = _ from hm0, show mI X 45 1 = _ from hm1, show mI X 0 60 = _ from h60]
  cases k with
  | true =>
    obtain ⟨a, b⟩ := hk.mp rfl
    obtain ⟨a1, a2⟩ := hAB.mpr a
    rw [if_pos a1, if_pos a2, if_neg (nI_nlt (by omega) (by omega))]
    exact ⟨X', g1, g2, g3⟩
  | false =>
    by_cases a1 : nI (rv W (2 ^ W - 1 - w)) &&& (nI m0 ^^^ -1) = 0
    · rw [if_pos a1]
      by_cases a2 : nI (rv W w) &&& (nI m1 ^^^ -1) = 0
      · have a := hAB.mp ⟨a1, a2⟩
        rw [if_pos a2, if_pos ((nI_ltI (by omega) (by omega)).mpr (Nat.lt_of_not_le (fun y => by have := hk.mpr ⟨a, y⟩; cases this)))]
        exact ⟨X', g1, g2, g3⟩
      · rw [if_neg a2]
        exact ⟨X', g1, g2, g3⟩
    · rw [if_neg a1]
      exact ⟨X', g1, g2, g3⟩
theorem fw101 {W : Nat} {px py sh : Nat → Nat} {V : Nat → Nat → Nat} {R : mm_M} {z : Nat} {p q : Nat → Prop} {ok : Nat → Bool} {m0 m1 : Nat} (h : plR W px py sh R) (hV : VOk W px py V) (h46 : ∀ s, s < 2 ^ W → ∀ l, vl W l → R.1 46 (9 * s + l) = nI (V s l)) (hz : z ≤ 2000) (h60 : R.1 0 60 = nI z) (hm0 : R.1 45 0 = nI m0) (hm1 : R.1 45 1 = nI m1) (hm : ∀ i, i < W → (m0 / 2 ^ i % 2 = 1 ↔ p i) ∧ (m1 / 2 ^ i % 2 = 1 ↔ q i)) (hok : ∀ w, w < 2 ^ W → (ok w = true ↔ alP W p q (2 ^ W - 1 - w) ∧ loF W (tOf V) w ≤ z)) (h65 : R.1 0 65 = -1) : ∃ R', f_X12_findWork_101 mm_fu 0 R = some R' ∧ f00 R R' ∧ rSt W (loF W (tOf V)) (soF W (tOf V)) R' (bst ok (loF W (tOf V)) (soF W (tOf V)) (2 ^ W)) := by
  have hW := h.2.1
  have h256 := w256 hW
  have hp1 : 1 ≤ 2 ^ W := Nat.one_le_two_pow
  refine lpMf (fun n w X => f_X12_findWork_101 n (nI w) X) (fun w X => f00 R X ∧ rSt W (loF W (tOf V)) (soF W (tOf V)) X (bst ok (loF W (tOf V)) (soF W (tOf V)) w)) (fun b => ∃ R', b = some R' ∧ f00 R R' ∧ rSt W (loF W (tOf V)) (soF W (tOf V)) R' (bst ok (loF W (tOf V)) (soF W (tOf V)) (2 ^ W))) (c := 2 ^ W) R (by omega) ⟨⟨fun _ _ => rfl, fun _ _ _ _ => rfl⟩, h65⟩ ?_ ?_
  · intro w n X hw hI ih
    obtain ⟨i1, i2⟩ := hI
    have hX62 : X.1 0 62 = nI W := (i1.2 62 (by omega) (by omega) (by omega)).trans h.1
    have h46X : ∀ s, s < 2 ^ W → ∀ l, vl W l → X.1 46 (9 * s + l) = nI (V s l) := by
      rw [i1.1 46 (by omega)]
      exact h46
    have hl1 := tOf_le hV (rv_1 W (by omega) w hw)
    have hl2 := tOf_le hV (rv_1 W (by omega) (2 ^ W - 1 - w) (by omega))
    obtain ⟨X', g1, g2, g3⟩ := fw198 (W := W) (w := w) (z := z) (T := tOf V) (X := X) (o := bst ok (loF W (tOf V)) (soF W (tOf V)) w) (p := p) (q := q) (m0 := m0) (m1 := m1) (k := ok w) hW hw hz ((i1.2 60 (by omega) (by omega) (by omega)).trans h60) (by rw [i1.1 45 (by omega)]; exact hm0) (by rw [i1.1 45 (by omega)]; exact hm1) hm (hok w hw) (fun b hb => by
      rcases hb with y | y
      · rw [y]
        exact ⟨hw, ls_le hW hV hw⟩
      · have := Nat.lt_trans (bst_lt y) hw
        exact ⟨this, ls_le hW hV this⟩) i2 (f_X12_findWork_101 n)
    show ∃ R', f_X12_findWork_101 (n + 1) (nI w) X = some R' ∧ _
    have fin : ∃ R', f_X12_findWork_198 (f_X12_findWork_101 n) (nI w) (nI (rv W w)) (nI (rv W (2 ^ W - 1 - w))) (nI (tOf V (rv W (2 ^ W - 1 - w)))) (nI (tOf V (rv W w))) (nI (loF W (tOf V) w)) X = some R' ∧ f00 R R' ∧ rSt W (loF W (tOf V)) (soF W (tOf V)) R' (bst ok (loF W (tOf V)) (soF W (tOf V)) (2 ^ W)) := by
      rw [g1]
      exact ih X' ⟨f00_t i1 g2, g3⟩
    unfold f_X12_findWork_101
    rw [show mI X 0 62 = nI W from hX62, sh_W W (by omega), if_neg (nI_ge hw (by omega)), fw117 hX62 hW hw]
    unfold f_X12_findWork_153
    rw [show mI X 0 62 = nI W from hX62, sh_W W (by omega), let_, cpl W (by omega) (rv W w) (rv_1 W (by omega) w hw), ← rv_4 W (by omega) w hw, tim_r hW hV h46X (rv_1 W (by omega) (2 ^ W - 1 - w) (by omega)), bi_, tim_r hW hV h46X (rv_1 W (by omega) w hw), bi_]
    by_cases e : tOf V (rv W (2 ^ W - 1 - w)) ≤ tOf V (rv W w)
    · rw [if_pos (nI_le e (by omega))]
      have : loF W (tOf V) w = tOf V (rv W w) := by
        unfold loF
        split <;> omega
      rw [this] at fin
      exact fin
    · rw [if_neg (nI_ge (by omega) (by omega))]
      have : loF W (tOf V) w = tOf V (rv W (2 ^ W - 1 - w)) := by
        unfold loF
        split <;> omega
      rw [this] at fin
      exact fin
  · intro n X hI
    show ∃ R', f_X12_findWork_101 (n + 1) (nI (2 ^ W)) X = some R' ∧ _
    unfold f_X12_findWork_101
    rw [show mI X 0 62 = nI W from (hI.1.2 62 (by omega) (by omega) (by omega)).trans h.1, sh_W W (by omega), if_pos (nI_le (by omega) (by omega))]
    exact ⟨X, rfl, hI⟩

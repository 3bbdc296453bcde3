/-! the walk -/
theorem pc_1 : ∀ c, c < 256 → ∀ j, j < 8 → c / 2 ^ j % 2 = 1 → pc (c - 2 ^ j) + 1 = pc c := by decide +kernel
theorem pc_0 : pc 0 = 0 := by decide +kernel
theorem wa109 {W : Nat} {px py sh : Nat → Nat} {V : Nat → Nat → Nat} {R : mm_M} (h : plR W px py sh R) (hV : VOk W px py V) (h46 : ∀ s, s < 2 ^ W → ∀ l, vl W l → R.1 46 (9 * s + l) = nI (V s l)) {s l g : Nat} (hs : s < 2 ^ W) (hl : vl W l) (hg : g < W) (h1 : s / 2 ^ g % 2 = 1) (h2 : Lg px py l g + V (s - 2 ^ g) g = V s l) (h3 : ∀ i, i < g → s / 2 ^ i % 2 = 1 → V s l < Lg px py l i + V (s - 2 ^ i) i) (k st : Int32) (K : Int32 → Int32 → Int32 → Int32 → mm_M → Option (Int32 × mm_M)) : f_X12_workAt_109 K mm_fu k (nI s) (nI l) st (-1) 0 R = K k (nI s) st (nI g) R := by
  have hW := h.2.1
  have h256 := w256 hW
  have hl9 : l < 9 := by rcases hl with z | z <;> omega
  refine lpf (fun n j => f_X12_workAt_109 K n k (nI s) (nI l) st (if j ≤ g then -1 else nI g) (nI j) R) (c := g + 1) (by omega) ?_ ?_
  · intro j n hj
    show f_X12_workAt_109 K (n + 1) _ _ _ _ _ _ _ = f_X12_workAt_109 K n _ _ _ _ _ _ _
    rw [if_pos (show j ≤ g by omega)]
    conv => lhs; unfold f_X12_workAt_109 f_X12_workAt_139 f_X12_workAt_196 f_X12_workAt_198
    rw [show mI R 0 62 = nI W from h.1, if_neg (nI_ge (show j < W by omega) (by omega)), if_neg g1n, if_neg n10, if_pos rfl, add1]
    have hsh := shr_i s (by omega) j (by omega)
    by_cases e : s / 2 ^ j % 2 = 1
    · have hjW : j < W := by omega
      have hp := pow_le_of e
      have hp1 : 1 ≤ 2 ^ j := Nat.one_le_two_pow
      have hv := (hV (s - 2 ^ j) (by omega) j (Or.inl hjW)).1
      have hv2 := (hV s hs l hl).1
      have hL := Lg_le h hl (b := j) (Or.inl hjW)
      rw [if_pos (hsh.mpr e), far_r h hl (Or.inl hjW), bi_, clr_i s (by omega) j (by omega) e, l9, pk_mul, pk_mul, nI_add, nI_add, ckI (by omega) (by omega), ckI (by omega) (by omega), clI (by omega), clI (by omega), show mI R 46 (9 * (s - 2 ^ j) + j) = _ from h46 _ (by omega) j (Or.inl hjW), show mI R 46 (9 * s + l) = _ from h46 _ hs l hl, nI_add]
      by_cases y : j = g
      · subst y
        rw [if_pos (show nI (Lg px py l j + V (s - 2 ^ j) j) = nI (V s l) by rw [h2]), if_neg (by omega)]
      · have := h3 j (by omega) e
        rw [if_neg (fun q => by have := (nI_eq (by omega) (by omega)).mp q; omega), if_pos (by omega)]
    · have y : j ≠ g := fun q => e (by rw [q]; exact h1)
      rw [if_neg (fun q => e (hsh.mp q)), if_pos (by omega)]
  · intro n
    show f_X12_workAt_109 K (n + 1) _ _ _ _ _ (nI (g + 1)) _ = _
    unfold f_X12_workAt_109
    rw [if_neg (show ¬ g + 1 ≤ g by omega)]
    by_cases e : mI R 0 62 ≤ nI (g + 1)
    · rw [if_pos e]
    · rw [if_neg e, if_pos (nI_pos' (by omega))]
theorem walk {W : Nat} {px py sh : Nat → Nat} {V : Nat → Nat → Nat} {o : Option Nat} {C R : mm_M} (h : Pl W px py sh V o C R) {k : Nat} (hk : k < 8) : ∀ (m st nC nR c l : Nat), st + m = k + 1 → m < nC → m < nR → c < 2 ^ W → m ≤ pc c → vl W l → (m = 0 → l < W) → ∃ x, f_X4_stopAt_43 f_X4_stopAt_80 nC (nI k) (nI c) (nI l) (nI st) C = some (x, C) ∧ f_X12_workAt_96 nR (nI k) (nI (rv W c)) (nI l) (nI st) R = some (x, R) := by
  obtain ⟨p1, p2, p3, p4, p5, p6, p7, p8, p9⟩ := h
  have hW := p1.2.1
  have h256 := w256 hW
  intro m
  induction m with
  | zero =>
    intro st nC nR c l h1 h2 h3 hc hm hl hl0
    obtain ⟨nC, rfl⟩ : ∃ q, nC = q + 1 := ⟨nC - 1, by omega⟩
    obtain ⟨nR, rfl⟩ : ∃ q, nR = q + 1 := ⟨nR - 1, by omega⟩
    have hlW := hl0 rfl
    refine ⟨nI (sh l), ?_, ?_⟩
    · unfold f_X4_stopAt_43 f_X4_stopAt_80
      rw [if_pos ((nI_ltI (by omega) (by omega)).mpr (by omega)), if_neg (show ¬ (8 : Int32) ≤ nI l from nI_ge (b := 8) (by omega) (by omega)), ckI (by omega) (by omega), clI (by omega), show mI C 61 l = _ from p1.2.2.2 l hlW]
    · unfold f_X12_workAt_96
      rw [if_pos ((nI_ltI (by omega) (by omega)).mpr (by omega)), ckI (by omega) (by omega), clI (by omega), show mI R 44 l = _ from (p2.2.2.2 l hlW).1]
  | succ m ih =>
    intro st nC nR c l h1 h2 h3 hc hm hl hl0
    obtain ⟨nC, rfl⟩ : ∃ q, nC = q + 1 := ⟨nC - 1, by omega⟩
    obtain ⟨nR, rfl⟩ : ∃ q, nR = q + 1 := ⟨nR - 1, by omega⟩
    have hr := rv_1 W (by omega) c hc
    have c0 : c ≠ 0 := by
      intro e
      rw [e, pc_0] at hm
      omega
    have hz : rv W c ≠ 0 := fun q => c0 ((rv_5 W (by omega) c hc).mp q)
    have hv := (p3 _ hr l hl).2.2 hz
    have hv1 := (p3 _ hr l hl).1
    have hag := ag_ok (s := rv W c) (f := fun i => Lg px py l i + V (rv W c - 2 ^ i) i) W (by rw [← hv]; omega)
    rw [← hv] at hag
    have hnx := next_c p1 p3 p4 hl hc (p5 c hc).1
    generalize ag (rv W c) (fun i => Lg px py l i + V (rv W c - 2 ^ i) i) W = g at hag hnx
    obtain ⟨g1, g2, g3, g4⟩ := hag
    have r0 := rv_2 W (by omega) c hc g g1
    have hcg : c / 2 ^ (W - 1 - g) % 2 = 1 := r0.symm.trans g2
    obtain ⟨r1, r2, r3⟩ := rv_3 W (by omega) c hc g g1 hcg
    have hpc := pc_1 c (by omega) (W - 1 - g) (by omega) hcg
    have hwa := wa109 p2 p3 p6 hr hl g1 g2 g3 g4 (nI k) (nI st) (f_X12_workAt_206 (f_X12_workAt_96 nR))
    obtain ⟨x, x1, x2⟩ := ih (st + 1) nC nR (c - 2 ^ (W - 1 - g)) g (by omega) (by omega) (by omega) (Nat.lt_of_le_of_lt (Nat.sub_le _ _) hc) (by omega) (Or.inl g1) (fun _ => g1)
    rw [r1] at x2
    refine ⟨x, ?_, ?_⟩
    · unfold f_X4_stopAt_43
      rw [if_neg (nI_nlt (by omega) (by omega)), if_neg (show ¬ (8 : Int32) ≤ nI st from nI_ge (b := 8) (by omega) (by omega)), hnx, bi_, bit_c p1 g1, bi_, let_, pk_sub r2, add1]
      exact x1
    · unfold f_X12_workAt_96
      rw [if_neg (nI_nlt (by omega) (by omega)), hwa]
      unfold f_X12_workAt_206
      rw [let_, clr_i (rv W c) (by omega) g (by omega) g2, add1]
      exact x2
theorem stop_two {W : Nat} {px py sh : Nat → Nat} {V : Nat → Nat → Nat} {o : Option Nat} {C R : mm_M} (h : Pl W px py sh V o C R) {c : Nat} (hc : c < 2 ^ W) (a : Int32) : ∃ x, f_X4_stopAt_20 a (nI c) C = some (x, C) ∧ f_X12_workAt_68 a (nI (rv W c)) R = some (x, R) := by
  have hW := h.1.2.1
  have h256 := w256 hW
  have hr := rv_1 W (by omega) c hc
  have hp8 := pc_le c
  unfold f_X4_stopAt_20 f_X12_workAt_68
  rw [bitC (by omega), bi_, ones_ok (by omega), bi_, rv_6 W (by omega) c hc]
  rcases i32_cases a with ha | ⟨k, hk, rfl⟩
  · rw [if_pos ha, in_n R (Or.inl ha), bi_, if_pos rfl]
    exact ⟨_, rfl, rfl⟩
  · rw [if_neg (nI_pos hk)]
    by_cases e : k < pc c
    · obtain ⟨x, x1, x2⟩ := walk h (k := k) (by omega) (k + 1) 0 mm_fu mm_fu c 8 (by omega) (fuGt (by omega)) (fuGt (by omega)) hc (by omega) (Or.inr rfl) (fun q => absurd q (by omega))
      rw [if_pos ((nI_ltI (by omega) (by omega)).mpr e), show nI (pc c) - 1 = nI (pc c - 1) from pk_sub (b := 1) (by omega), in_y R (nI_pos' (by omega)) (nI_le (by omega) (by omega)), bi_, if_neg n10]
      exact ⟨x, x1, x2⟩
    · rw [if_neg (fun q => e ((nI_ltI (by omega) (by omega)).mp q)), in_n R, bi_, if_pos rfl]
      · exact ⟨_, rfl, rfl⟩
      · refine Or.inr ?_
        rw [Int32.lt_iff_toInt_lt, show (nI (pc c) - 1).toInt = (pc c : Int) - (1 : Nat) from pk_sub_toInt (b := 1) (by omega) (by omega), nI_toInt hk]
        omega
theorem ok_workAt (a b c d : Int32) (hc3 : c = 0 ∨ c = 1) : op_i Rel (f_X11_workAt a b c d) (f_X12_workAt a b c d) := by
  intro C R h
  unfold f_X12_workAt
  rw [let_]
  have h := rel_t h 0
  generalize sI R 0 0 0 = R at h ⊢
  show ends _ _
  unfold f_X11_workAt
  rcases wr_two h a b with ⟨x, x1, x2, x3⟩ | ⟨i, j, hi, hj, rfl, rfl, x2, x3⟩
  · rw [x2, x3, bi_, bi_]
    rcases x1 with rfl | rfl
    · rw [if_neg (by rw [z1]; exact id), if_neg g1n, x3, bi_, bi_id, bi_id]
      exact ref1 h
    · rw [if_neg (by rw [z5]; exact id), if_neg g5n, x3, bi_, bi_id, bi_id]
      exact ref5 h
  · rw [x2, x3, bi_, bi_, if_pos rfl, if_pos le00]
    obtain ⟨C', R', W, px, py, sh, V, o, g1, g2, g3, g4, g5⟩ := plan_all h hi hj
    have hrel := rel_w h g3 g4
    have g5' := g5
    obtain ⟨p1, p2, p3, p4, p5, p6, p7, p8, p9⟩ := g5'
    rw [g1, g2, bv_, bv_]
    unfold mI
    cases o with
    | none =>
      rw [if_pos (show C'.1 10 9 = 0 from p7), show R'.1 0 65 = -1 from p8, if_neg g1n]
      unfold f_X12_workAt_68
      rw [show f_X12_ones 0 R' = _ from ones_ok (s := 0) (by omega) R', bi_, pc_0, in_n R', bi_, if_pos rfl]
      · exact ends_of hrel
      · by_cases e : d < 0
        · exact Or.inl e
        · refine Or.inr ?_
          obtain ⟨k, hk, rfl⟩ := nI_of e
          rw [Int32.lt_iff_toInt_lt, show (nI 0 - 1).toInt = ((0 : Nat) : Int) - (1 : Nat) from pk_sub_toInt (b := 1) (by omega) (by omega), nI_toInt hk]
          omega
    | some y =>
      obtain ⟨c1, c2, c3, c4⟩ := p7
      obtain ⟨d1, d2, d3⟩ := p8
      have hy := p9 y rfl
      have hW := p1.2.1
      have h256 := w256 hW
      have hrv := rv_1 W (by omega) y hy
      rw [c1, if_neg n10, d1, if_pos (nI_pos' (by omega)), show R'.1 0 62 = _ from p2.1, sh_W W (by omega), cpl W (by omega) (rv W y) hrv, ← rv_4 W (by omega) y hy, bi_id]
      unfold f_X4_stopAt
      rw [all_c p1, bi_]
      unfold mI
      rw [c2]
      rcases hc3 with rfl | rfl
      · obtain ⟨x, q1, q2⟩ := stop_two g5 (c := 2 ^ W - 1 - y) (by omega) d
        rw [if_pos rfl, if_pos rfl, q1, q2]
        exact ends_of hrel
      · obtain ⟨x, q1, q2⟩ := stop_two g5 (c := y) hy d
        rw [if_neg n10, if_neg n10, pk_sub (by omega), show 2 ^ W - 1 - (2 ^ W - 1 - y) = y by omega, q1, q2]
        exact ends_of hrel
theorem ops_ok : OpsOk Rel := ⟨ok_days, ok_shop, ok_weight, ok_open, ok_sell, ok_child, ok_guess, ok_childOf, ok_known, ok_draw, ok_drawn, ok_feed, ok_rule, ok_force, ok_test, ok_appeal, ok_testOf, ok_fact, ok_step, ok_lost, ok_leave, ok_work, ok_workAt, ok_letters, ok_letter, ok_helped, ok_wards, ok_clerk, ok_tally, ok_worst, ok_cost, ok_most, ok_count, ok_back⟩

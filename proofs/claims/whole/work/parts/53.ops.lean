/-- the class's rounds, where all that are open become sure -/
theorem rounds_B6 {ins we : Nat → Int32} {g : Nat → Nat} (hw : ∀ i, i < 40 → we i = nI (g i)) : ∀ (k x n : Nat) (C : mm_M) (su : Nat → Int32) (r q : Nat), gsum (oth ins su) 40 ≤ k → k ≤ 40 - x → x ≤ 40 → 40 < n + x → Dst ins su g → C.1 52 = ins → C.1 54 = we → C.1 53 = su → C.1 6 4 = nI r → C.1 6 5 = nI q → r ≤ 40 → q = gsum (otw ins su g) 40 → gsum (oth ins su) 40 ≤ r → ∃ C' su' r', f_X2_reckon_6_101 n (nI x) C = some C' ∧ C'.1 52 = ins ∧ C'.1 54 = we ∧ C'.1 53 = su' ∧ C'.1 6 4 = nI r' ∧ C'.1 6 5 = nI 0 ∧ kp6 C C' ∧ Drw ins su' g r' 0 ∧ gsum (oth ins su') 40 = 0 := by
  intro k
  induction k with
  | zero =>
    intro x n C su r q hk hx hx2 hn hd h1 h2 h3 h4 h5 hr hq hu
    obtain ⟨n, rfl⟩ : ∃ q, n = q + 1 := ⟨n - 1, by omega⟩
    have h0 : gsum (oth ins su) 40 = 0 := by omega
    have hD := dst_end0 hd hr hq h0
    have q0 : q = 0 := by
      rw [hq]
      exact gsum_z (fun i hi => if_neg (fun z => by
        have := gsum_0 h0 i hi
        unfold oth at this
        rw [if_pos z] at this
        omega))
    subst q0
    have hc := pass_U ins su g r 0
    unfold f_X2_reckon_6_101
    by_cases e : 40 ≤ x
    · rw [if_pos (show (40 : Int32) ≤ nI x from nI_le (a := 40) e (by omega))]
      exact ⟨C, su, r, rfl, h1, h2, h3, h4, h5, ⟨fun _ _ _ _ _ => rfl, fun _ _ _ => rfl⟩, hD, h0⟩
    · rw [if_neg (show ¬ (40 : Int32) ≤ nI x from nI_ge (b := 40) (by omega) (by decide)), make6 hd hw h1 h2 h3 h4 h5 hr hq (by omega), bi_, flg_0 (by omega), if_pos rfl]
      have hpd := dst_pass hd r 0
      have hw0 := pass_W ins su g r 0
      have hpo : gsum (oth ins (psu ins su g r 0 40)) 40 = 0 := by omega
      exact ⟨_, psu ins su g r 0 40, r, rfl, by rw [pm6_1]; exact h1, by rw [pm6_1]; exact h2, by rw [pm6_1]; rfl, by rw [pm6_1, if_pos rfl, upd_at, if_neg (by omega), upd_at, if_pos rfl, show r - gsum (chg ins su g r 0) 40 = r by omega], by rw [pm6_1, if_pos rfl, upd_at, if_pos rfl]; exact congrArg nI (by omega), kp6_pm _ _ _ _, dst_end0 hpd hr (by omega) hpo, hpo⟩
  | succ k ih =>
    intro x n C su r q hk hx hx2 hn hd h1 h2 h3 h4 h5 hr hq hu
    by_cases hU : gsum (oth ins su) 40 ≤ k
    · exact ih x n C su r q hU (by omega) hx2 hn hd h1 h2 h3 h4 h5 hr hq hu
    · obtain ⟨n, rfl⟩ : ∃ q, n = q + 1 := ⟨n - 1, by omega⟩
      have hc := pass_U ins su g r q
      have hw0 := pass_W ins su g r q
      have hne := pass_B hq (by omega) hu
      unfold f_X2_reckon_6_101
      rw [if_neg (show ¬ (40 : Int32) ≤ nI x from nI_ge (b := 40) (by omega) (by decide)), make6 hd hw h1 h2 h3 h4 h5 hr hq (by omega), bi_, flg_1 hne, if_neg n10, add1]
      obtain ⟨C', su', r', g1, g2, g3, g4, g5, g6, g7, g8, g9⟩ := ih (x + 1) n (pm6 C (psu ins su g r q 40) (nI (r - gsum (chg ins su g r q) 40)) (nI (q - gsum (chw ins su g r q) 40))) (psu ins su g r q 40) (r - gsum (chg ins su g r q) 40) (q - gsum (chw ins su g r q) 40) (by omega) (by omega) (by omega) (by omega) (dst_pass hd r q) (by rw [pm6_1]; exact h1) (by rw [pm6_1]; exact h2) (by rw [pm6_1]; rfl) (by rw [pm6_1]; rfl) (by rw [pm6_1]; rfl) (by omega) (by omega) (by omega)
      exact ⟨C', su', r', g1, g2, g3, g4, g5, g6, kp6_t (kp6_pm _ _ _ _) g7, g8, g9⟩
/-- what the reference's findSure may change -/
def kpF (R R' : mm_M) : Prop := (∀ a, a ≠ 0 → a ≠ 18 → R'.1 a = R.1 a) ∧ (∀ j, j ≠ 22 → j ≠ 23 → R'.1 0 j = R.1 0 j)
theorem kpF_t {A B C : mm_M} (h : kpF A B) (g : kpF B C) : kpF A C := ⟨fun a h1 h2 => (g.1 a h1 h2).trans (h.1 a h1 h2), fun j h1 h2 => (g.2 j h1 h2).trans (h.2 j h1 h2)⟩
theorem kpF_pm (C : mm_M) (su : Nat → Int32) (r q : Int32) : kpF C (pmR C su r q) := by
  refine ⟨fun a h1 h2 => ?_, fun j h1 h2 => ?_⟩
  · rw [pmR_1, if_neg h1, if_neg h2]
  · rw [pmR_1, if_pos rfl, upd_at, if_neg h2, upd_at, if_neg h1]
/-- the reference's rows against the class's: n shops, the reference's open, sure, weights -/
def drR (n : Nat) (ins su : Nat → Int32) (g : Nat → Nat) (op wr sr : Nat → Int32) : Prop := (∀ j, j < n → (op j = 0 ↔ ins j = 0) ∧ (¬ ins j = 0 → nN (wr j) = g j) ∧ sr j = su j ∧ rng (wr j) 1 20) ∧ ∀ j, n ≤ j → j < 40 → ins j = 0
theorem drR_chg {n : Nat} {ins su : Nat → Int32} {g : Nat → Nat} {op wr sr : Nat → Int32} (h : drR n ins su g op wr sr) (N A : Nat) {j : Nat} (hj : j < n) : (¬ op j = 0 ∧ sr j = 0 ∧ A ≤ N * nN (wr j)) ↔ (¬ ins j = 0 ∧ su j = 0 ∧ A ≤ N * g j) := by
  obtain ⟨h1, h2, h3, h4⟩ := h.1 j hj
  rw [h1, h3]
  by_cases e : ins j = 0
  · simp only [e, not_true_eq_false, false_and]
  · rw [h2 e]
theorem drR_c {n : Nat} {ins su : Nat → Int32} {g : Nat → Nat} {op wr sr : Nat → Int32} (h : drR n ins su g op wr sr) (hn : n ≤ 40) (N A : Nat) : gsum (chg op sr (fun i => nN (wr i)) N A) n = gsum (chg ins su g N A) 40 := by
  rw [gsum_cut (f := chg ins su g N A) hn (fun i hi hi2 => if_neg (fun q => q.1 (h.2 i hi hi2)))]
  refine gsum_eq (fun j hj => ?_)
  have k := drR_chg h N A hj
  unfold chg
  by_cases e : ¬ ins j = 0 ∧ su j = 0 ∧ A ≤ N * g j
  · rw [if_pos e, if_pos (k.mpr e)]
  · rw [if_neg e, if_neg (fun q => e (k.mp q))]
theorem drR_w {n : Nat} {ins su : Nat → Int32} {g : Nat → Nat} {op wr sr : Nat → Int32} (h : drR n ins su g op wr sr) (hn : n ≤ 40) (N A : Nat) : gsum (chw op sr (fun i => nN (wr i)) N A) n = gsum (chw ins su g N A) 40 := by
  rw [gsum_cut (f := chw ins su g N A) hn (fun i hi hi2 => if_neg (fun q => q.1 (h.2 i hi hi2)))]
  refine gsum_eq (fun j hj => ?_)
  have k := drR_chg h N A hj
  unfold chw
  by_cases e : ¬ ins j = 0 ∧ su j = 0 ∧ A ≤ N * g j
  · rw [if_pos e, if_pos (k.mpr e)]
    exact (h.1 j hj).2.1 e.1
  · rw [if_neg e, if_neg (fun q => e (k.mp q))]
theorem drR_p {n : Nat} {ins su : Nat → Int32} {g : Nat → Nat} {op wr sr : Nat → Int32} (h : drR n ins su g op wr sr) (hn : n ≤ 40) (N A : Nat) : drR n ins (psu ins su g N A 40) g op wr (psu op sr (fun i => nN (wr i)) N A n) := by
  refine ⟨fun j hj => ?_, h.2⟩
  have k := drR_chg h N A hj
  obtain ⟨h1, h2, h3, h4⟩ := h.1 j hj
  refine ⟨h1, h2, ?_, h4⟩
  unfold psu
  by_cases e : ¬ ins j = 0 ∧ su j = 0 ∧ A ≤ N * g j
  · rw [if_pos ⟨hj, k.mpr e⟩, if_pos ⟨by omega, e⟩]
  · rw [if_neg (fun q => e (k.mp q.2)), if_neg (fun q => e q.2), h3]
/-- both sides' rounds, where fewer are drawn than are open -/
theorem rounds_A6 {ins we : Nat → Int32} {g : Nat → Nat} (hw : ∀ i, i < 40 → we i = nI (g i)) {N : Nat} (hN : N ≤ 40) {op wr : Nat → Int32} : ∀ (k x n m : Nat) (C R : mm_M) (su sr : Nat → Int32) (r q : Nat), gsum (oth ins su) 40 ≤ k → k ≤ 40 - x → x ≤ 40 → 40 < n + x → k < m → Dst ins su g → drR N ins su g op wr sr → C.1 52 = ins → C.1 54 = we → C.1 53 = su → C.1 6 4 = nI r → C.1 6 5 = nI q → R.1 0 2 = nI N → R.1 6 = op → R.1 5 = wr → R.1 18 = sr → R.1 0 22 = nI r → R.1 0 23 = nI q → r ≤ 40 → q = gsum (otw ins su g) 40 → 1 ≤ r → r < gsum (oth ins su) 40 → ∃ C' R' su' sr' r' q', f_X2_reckon_6_101 n (nI x) C = some C' ∧ f_X12_findSure_119 m 1 R = some R' ∧ C'.1 52 = ins ∧ C'.1 54 = we ∧ C'.1 53 = su' ∧ C'.1 6 4 = nI r' ∧ C'.1 6 5 = nI q' ∧ R'.1 18 = sr' ∧ R'.1 0 22 = nI r' ∧ R'.1 0 23 = nI q' ∧ kp6 C C' ∧ kpF R R' ∧ Drw ins su' g r' q' ∧ drR N ins su' g op wr sr' := by
  intro k
  induction k with
  | zero =>
    intro x n m C R su sr r q hk hx hx2 hn hm hd hdr h1 h2 h3 h4 h5 j0 j1 j2 j3 j4 j5 hr hq hr1 hu
    omega
  | succ k ih =>
    intro x n m C R su sr r q hk hx hx2 hn hm hd hdr h1 h2 h3 h4 h5 j0 j1 j2 j3 j4 j5 hr hq hr1 hu
    obtain ⟨n, rfl⟩ : ∃ q, n = q + 1 := ⟨n - 1, by omega⟩
    obtain ⟨m, rfl⟩ : ∃ q, m = q + 1 := ⟨m - 1, by omega⟩
    have hc := pass_U ins su g r q
    have hw0 := pass_W ins su g r q
    have hlt := pass_A (fun i hi => (hd i hi).2.2.2.2) hq hr1 hu
    have hq2 : q ≤ 800 := by rw [hq]; exact otw_le (fun i hi => (hd i hi).2.2.1)
    have kr := pass_r (ins := op) (we := wr) (su := sr) (g := fun i => nN (wr i)) (N := r) (A := q) (c := N) (nI r) (nI q) hN (fun i hi => ⟨(rng_n (hdr.1 i hi).2.2.2 (by omega)).1, (rng_n (hdr.1 i hi).2.2.2 (by omega)).2.2⟩) hr hq2 (f_X12_findSure_226 (f_X12_findSure_119 m)) N 0 mm_fu R (by omega) (fuGt (by omega)) j0 j1 j2 (by rw [psu_0]; exact j3) (by rw [j4]; exact (Int32.sub_zero _).symm) (by rw [j5]; exact (Int32.sub_zero _).symm)
    rw [drR_c hdr hN, drR_w hdr hN, pk_sub (by omega), pk_sub (by omega)] at kr
    have hdr2 := drR_p hdr hN r q
    have eR : f_X12_findSure_119 (m + 1) 1 R = f_X12_findSure_119 m (flg (gsum (chg ins su g r q) 40)) (pmR R (psu op sr (fun i => nN (wr i)) r q N) (nI (r - gsum (chg ins su g r q) 40)) (nI (q - gsum (chw ins su g r q) 40))) := by
      conv => lhs; unfold f_X12_findSure_119 mI
      rw [if_neg n10, let_, let_, j4, j5]
      exact kr
    rw [eR]
    unfold f_X2_reckon_6_101
    rw [if_neg (show ¬ (40 : Int32) ≤ nI x from nI_ge (b := 40) (by omega) (by decide)), make6 hd hw h1 h2 h3 h4 h5 hr hq (by omega), bi_]
    by_cases e : gsum (chg ins su g r q) 40 = 0
    · rw [flg_0 e, if_pos rfl]
      have hD : Drw ins su g r q := dst_end hd hr hq e (Or.inr hr1)
      have hs : psu ins su g r q 40 = su := by
        funext p
        unfold psu
        by_cases hp : p < 40 ∧ ¬ ins p = 0 ∧ su p = 0 ∧ q ≤ r * g p
        · have := pass_no e p hp.1 hp.2.1 hp.2.2.1
          omega
        · rw [if_neg hp]
      have hw1 : gsum (chw ins su g r q) 40 = 0 := by
        rw [hs] at hw0
        omega
      obtain ⟨m, rfl⟩ : ∃ q, m = q + 1 := ⟨m - 1, by omega⟩
      unfold f_X12_findSure_119
      rw [if_pos rfl]
      rw [hs] at hdr2
      rw [hs, e, hw1]
      exact ⟨_, _, su, psu op sr (fun i => nN (wr i)) r q N, r, q, rfl, rfl, by rw [pm6_1]; exact h1, by rw [pm6_1]; exact h2, by rw [pm6_1]; rfl, by rw [pm6_1]; rfl, by rw [pm6_1]; rfl, by rw [pmR_1]; rfl, by rw [pmR_1]; rfl, by rw [pmR_1]; rfl, kp6_pm _ _ _ _, kpF_pm _ _ _ _, hD, hdr2⟩
    · rw [flg_1 e, if_neg n10, add1]
      obtain ⟨C', R', su', sr', r', q', g1, g2, g3, g4, g5, g6, g7, g8, g9, g10, g11, g12, g13, g14⟩ := ih (x + 1) n m (pm6 C (psu ins su g r q 40) (nI (r - gsum (chg ins su g r q) 40)) (nI (q - gsum (chw ins su g r q) 40))) (pmR R (psu op sr (fun i => nN (wr i)) r q N) (nI (r - gsum (chg ins su g r q) 40)) (nI (q - gsum (chw ins su g r q) 40))) (psu ins su g r q 40) (psu op sr (fun i => nN (wr i)) r q N) (r - gsum (chg ins su g r q) 40) (q - gsum (chw ins su g r q) 40) (by omega) (by omega) (by omega) (by omega) (by omega) (dst_pass hd r q) hdr2 (by rw [pm6_1]; exact h1) (by rw [pm6_1]; exact h2) (by rw [pm6_1]; rfl) (by rw [pm6_1]; rfl) (by rw [pm6_1]; rfl) (by rw [pmR_1]; exact j0) (by rw [pmR_1]; exact j1) (by rw [pmR_1]; exact j2) (by rw [pmR_1]; rfl) (by rw [pmR_1]; rfl) (by rw [pmR_1]; rfl) (by omega) (by omega) (by omega) (by omega)
      exact ⟨C', R', su', sr', r', q', g1, g2, g3, g4, g5, g6, g7, g8, g9, g10, kp6_t (kp6_pm _ _ _ _) g11, kpF_t (kpF_pm _ _ _ _) g12, g13, g14⟩

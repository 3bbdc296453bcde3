theorem sub2 (a b c : Int32) : a - b - c = a - (b + c) := by
  rw [Int32.sub_eq_add_neg, Int32.sub_eq_add_neg, Int32.sub_eq_add_neg, Int32.neg_add, Int32.add_assoc, Int32.sub_eq_add_neg (-b) c]
theorem other6 {C : mm_M} {s : Nat} (hs : s < 40) : f_X2_isOther_6 (nI s) C = some (if ¬ C.1 52 s = 0 ∧ C.1 53 s = 0 then 1 else 0, C) := by
  unfold f_X2_isOther_6 mI
  simp only [ckI hs (show 40 ≤ 100000 by omega), clI (show s < 2 ^ 31 by omega)]
  by_cases e1 : C.1 52 s = 0
  · rw [if_pos e1, if_neg (fun q => q.1 e1)]
  · rw [if_neg e1]
    by_cases e2 : C.1 53 s = 0
    · rw [if_pos e2, if_pos ⟨e1, e2⟩]
    · rw [if_neg e2, if_neg (fun q => e2 q.2)]
/-- the class's memory after a pass -/
def pm6 (C : mm_M) (su : Nat → Int32) (r q : Int32) : mm_M := sA (sA C 53 su) 6 (upd (upd (C.1 6) 4 r) 5 q)
theorem pm6_1 (C : mm_M) (su : Nat → Int32) (r q : Int32) (a : Nat) : (pm6 C su r q).1 a = if a = 6 then upd (upd (C.1 6) 4 r) 5 q else if a = 53 then su else C.1 a := by
  unfold pm6
  rw [sA1, sA1]
theorem pm6_id (C : mm_M) : pm6 C (C.1 53) (C.1 6 4) (C.1 6 5) = C := by
  unfold pm6
  rw [sA_id, upd_id, upd_id, sA_id]
theorem pm6_s (C : mm_M) (i : Nat) (x y z : Int32) (su : Nat → Int32) (r q : Int32) : pm6 (sI (sI (sI C 53 i x) 6 4 y) 6 5 z) su r q = pm6 C su r q := by
  refine Prod.ext ?_ rfl
  funext a
  rw [pm6_1, pm6_1]
  by_cases e6 : a = 6
  · rw [if_pos e6, if_pos e6]
    simp only [s1, Nat.reduceEqDiff, reduceIte]
    funext j
    unfold upd
    by_cases j5 : j = 5 <;> by_cases j4 : j = 4 <;> simp only [j5, j4, reduceIte, Nat.reduceEqDiff]
  · rw [if_neg e6, if_neg e6]
    by_cases e5 : a = 53
    · rw [if_pos e5, if_pos e5]
    · rw [if_neg e5, if_neg e5]
      simp only [s1, e6, e5, reduceIte]
theorem pass_c6 {ins we su : Nat → Int32} {g : Nat → Nat} {N A : Nat} (r q : Int32) (hg : ∀ i, i < 40 → we i = nI (g i) ∧ g i ≤ 20) (hN : N ≤ 40) (hA : A ≤ 800) : ∀ (m s n : Nat) (C : mm_M), s + m = 40 → m < n → C.1 52 = ins → C.1 54 = we → C.1 53 = psu ins su g N A s → C.1 6 4 = r - nI (gsum (chg ins su g N A) s) → C.1 6 5 = q - nI (gsum (chw ins su g N A) s) → f_X2_makeSure_6_15 n (nI N) (nI A) (flg (gsum (chg ins su g N A) s)) (nI s) C = some (flg (gsum (chg ins su g N A) 40), pm6 C (psu ins su g N A 40) (r - nI (gsum (chg ins su g N A) 40)) (q - nI (gsum (chw ins su g N A) 40))) := by
  intro m
  induction m with
  | zero =>
    intro s n C hs hn h1 h2 h3 h4 h5
    obtain ⟨n, rfl⟩ : ∃ q, n = q + 1 := ⟨n - 1, by omega⟩
    obtain rfl : s = 40 := by omega
    unfold f_X2_makeSure_6_15
    rw [if_pos (show (40 : Int32) ≤ nI 40 by decide +kernel), ← h3, ← h4, ← h5, pm6_id]
    rcases flg01 (gsum (chg ins su g N A) 40) with e | e <;> rw [e] <;> rfl
  | succ m ih =>
    intro s n C hs hn h1 h2 h3 h4 h5
    obtain ⟨n, rfl⟩ : ∃ q, n = q + 1 := ⟨n - 1, by omega⟩
    obtain ⟨g1, g2⟩ := hg s (by omega)
    have hNg : N * g s ≤ 40 * 20 := Nat.mul_le_mul hN g2
    have hc := gsum_s (chg ins su g N A) s
    have hw := gsum_s (chw ins su g N A) s
    unfold f_X2_makeSure_6_15 mI f_X2_makeSure_6_80
    rw [if_neg (show ¬ (40 : Int32) ≤ nI s from nI_ge (b := 40) (by omega) (by decide)), other6 (by omega), bi_]
    simp only [ckI (show s < 40 by omega) (show 40 ≤ 100000 by omega), clI (show s < 2 ^ 31 by omega), h1, h2, h3, psu_at, g1, pk_mul, let_, add1, a11]
    by_cases e : ¬ ins s = 0 ∧ su s = 0 ∧ A ≤ N * g s
    · rw [if_pos (show ¬ ins s = 0 ∧ su s = 0 from ⟨e.1, e.2.1⟩), if_neg n10, if_neg (show ¬ nI (N * g s) < nI A from nI_nlt e.2.2 (by omega))]
      unfold chg at hc
      unfold chw at hw
      rw [if_pos e] at hc hw
      have hc2 : gsum (chg ins su g N A) (s + 1) = gsum (chg ins su g N A) s + 1 := hc
      have hw2 : gsum (chw ins su g N A) (s + 1) = gsum (chw ins su g N A) s + g s := hw
      have q1 : (sI C 53 s 1).1 6 4 - 1 = r - nI (gsum (chg ins su g N A) (s + 1)) := by
        simp only [s1, Nat.reduceEqDiff, reduceIte]
        rw [h4, hc2, sub2, add1]
      rw [q1]
      have q2 : (sI (sI C 53 s 1) 6 4 (r - nI (gsum (chg ins su g N A) (s + 1)))).1 6 5 - (sI (sI C 53 s 1) 6 4 (r - nI (gsum (chg ins su g N A) (s + 1)))).1 54 s = q - nI (gsum (chw ins su g N A) (s + 1)) := by
        simp only [s1, Nat.reduceEqDiff, reduceIte, upd_at]
        rw [h5, h2, g1, hw2, sub2, nI_add]
      rw [q2]
      have q3 : (1 : Int32) = flg (gsum (chg ins su g N A) (s + 1)) := by
        unfold flg
        rw [if_neg (by omega)]
      have k := ih (s + 1) n (sI (sI (sI C 53 s 1) 6 4 (r - nI (gsum (chg ins su g N A) (s + 1)))) 6 5 (q - nI (gsum (chw ins su g N A) (s + 1)))) (by omega) (by omega) (by simp only [s1, Nat.reduceEqDiff, reduceIte]; exact h1) (by simp only [s1, Nat.reduceEqDiff, reduceIte]; exact h2) (by simp only [s1, Nat.reduceEqDiff, reduceIte, h3]; exact (psu_y ins su g e).symm) (by simp only [s1, Nat.reduceEqDiff, reduceIte, upd_at]) (by simp only [s1, Nat.reduceEqDiff, reduceIte, upd_at])
      rw [pm6_s, ← q3] at k
      exact k
    · unfold chg at hc
      unfold chw at hw
      rw [if_neg e] at hc hw
      have hc2 : gsum (chg ins su g N A) (s + 1) = gsum (chg ins su g N A) s := hc
      have hw2 : gsum (chw ins su g N A) (s + 1) = gsum (chw ins su g N A) s := hw
      have k := ih (s + 1) n C (by omega) (by omega) h1 h2 (by rw [psu_n ins su g e]; exact h3) (by rw [hc2]; exact h4) (by rw [hw2]; exact h5)
      rw [hc2] at k
      by_cases e2 : ¬ ins s = 0 ∧ su s = 0
      · rw [if_pos e2, if_neg n10, if_pos (show nI (N * g s) < nI A from nI_lt (by
          rcases Nat.lt_or_ge (N * g s) A with z | z
          · exact z
          · exact absurd ⟨e2.1, e2.2, z⟩ e) (by omega))]
        exact k
      · rw [if_neg e2, if_pos rfl]
        exact k

/-- the reference's memory after a pass -/
def pmR (R : mm_M) (su : Nat → Int32) (r q : Int32) : mm_M := sA (sA R 18 su) 0 (upd (upd (R.1 0) 22 r) 23 q)
theorem pmR_1 (R : mm_M) (su : Nat → Int32) (r q : Int32) (a : Nat) : (pmR R su r q).1 a = if a = 0 then upd (upd (R.1 0) 22 r) 23 q else if a = 18 then su else R.1 a := by
  unfold pmR
  rw [sA1, sA1]
theorem pmR_id (R : mm_M) : pmR R (R.1 18) (R.1 0 22) (R.1 0 23) = R := by
  unfold pmR
  rw [sA_id, upd_id, upd_id, sA_id]
theorem pmR_s (R : mm_M) (i : Nat) (x y z : Int32) (su : Nat → Int32) (r q : Int32) : pmR (sI (sI (sI R 18 i x) 0 22 y) 0 23 z) su r q = pmR R su r q := by
  refine Prod.ext ?_ rfl
  funext a
  rw [pmR_1, pmR_1]
  by_cases e6 : a = 0
  · rw [if_pos e6, if_pos e6]
    simp only [s1, Nat.reduceEqDiff, reduceIte]
    funext j
    unfold upd
    by_cases j5 : j = 23 <;> by_cases j4 : j = 22 <;> simp only [j5, j4, reduceIte, Nat.reduceEqDiff]
  · rw [if_neg e6, if_neg e6]
    by_cases e5 : a = 18
    · rw [if_pos e5, if_pos e5]
    · rw [if_neg e5, if_neg e5]
      simp only [s1, e6, e5, reduceIte]
theorem pass_r {ins we su : Nat → Int32} {g : Nat → Nat} {N A c : Nat} (r q : Int32) (hc40 : c ≤ 40) (hg : ∀ i, i < c → we i = nI (g i) ∧ g i ≤ 20) (hN : N ≤ 40) (hA : A ≤ 800) (K : Int32 → mm_M → Option mm_M) : ∀ (m s n : Nat) (R : mm_M), s + m = c → m < n → R.1 0 2 = nI c → R.1 6 = ins → R.1 5 = we → R.1 18 = psu ins su g N A s → R.1 0 22 = r - nI (gsum (chg ins su g N A) s) → R.1 0 23 = q - nI (gsum (chw ins su g N A) s) → f_X12_findSure_140 K n (flg (gsum (chg ins su g N A) s)) (nI N) (nI A) (nI s) R = K (flg (gsum (chg ins su g N A) c)) (pmR R (psu ins su g N A c) (r - nI (gsum (chg ins su g N A) c)) (q - nI (gsum (chw ins su g N A) c))) := by
  intro m
  induction m with
  | zero =>
    intro s n R hs hn h0 h1 h2 h3 h4 h5
    obtain ⟨n, rfl⟩ : ∃ q, n = q + 1 := ⟨n - 1, by omega⟩
    obtain rfl : s = c := by omega
    unfold f_X12_findSure_140 mI
    rw [h0, if_pos (nI_le (by omega) (by omega)), ← h3, ← h4, ← h5, pmR_id]
  | succ m ih =>
    intro s n R hs hn h0 h1 h2 h3 h4 h5
    obtain ⟨n, rfl⟩ : ∃ q, n = q + 1 := ⟨n - 1, by omega⟩
    obtain ⟨g1, g2⟩ := hg s (by omega)
    have hNg : N * g s ≤ 40 * 20 := Nat.mul_le_mul hN g2
    have hc := gsum_s (chg ins su g N A) s
    have hw := gsum_s (chw ins su g N A) s
    unfold f_X12_findSure_140 mI f_X12_findSure_220
    simp only [h0, if_neg (nI_ge (show s < c by omega) (show c < 2 ^ 31 by omega)), ckI (show s < 40 by omega) (show 40 ≤ 100000 by omega), clI (show s < 2 ^ 31 by omega), h1, h2, h3, psu_at, g1, pk_mul, let_, add1, a11]
    by_cases e : ¬ ins s = 0 ∧ su s = 0 ∧ A ≤ N * g s
    · rw [if_neg e.1, if_pos e.2.1, if_neg (show ¬ nI (N * g s) < nI A from nI_nlt e.2.2 (by omega))]
      unfold chg at hc
      unfold chw at hw
      rw [if_pos e] at hc hw
      have hc2 : gsum (chg ins su g N A) (s + 1) = gsum (chg ins su g N A) s + 1 := hc
      have hw2 : gsum (chw ins su g N A) (s + 1) = gsum (chw ins su g N A) s + g s := hw
      have q1 : (sI R 18 s 1).1 0 22 - 1 = r - nI (gsum (chg ins su g N A) (s + 1)) := by
        simp only [s1, Nat.reduceEqDiff, reduceIte]
        rw [h4, hc2, sub2, add1]
      rw [q1]
      have q2 : (sI (sI R 18 s 1) 0 22 (r - nI (gsum (chg ins su g N A) (s + 1)))).1 0 23 - (sI (sI R 18 s 1) 0 22 (r - nI (gsum (chg ins su g N A) (s + 1)))).1 5 s = q - nI (gsum (chw ins su g N A) (s + 1)) := by
        simp only [s1, Nat.reduceEqDiff, reduceIte, upd_at]
        rw [h5, h2, g1, hw2, sub2, nI_add]
      rw [q2]
      have q3 : (1 : Int32) = flg (gsum (chg ins su g N A) (s + 1)) := by
        unfold flg
        rw [if_neg (by omega)]
      have k := ih (s + 1) n (sI (sI (sI R 18 s 1) 0 22 (r - nI (gsum (chg ins su g N A) (s + 1)))) 0 23 (q - nI (gsum (chw ins su g N A) (s + 1)))) (by omega) (by omega) (by simp only [s1, Nat.reduceEqDiff, reduceIte, upd_at]; exact h0) (by simp only [s1, Nat.reduceEqDiff, reduceIte]; exact h1) (by simp only [s1, Nat.reduceEqDiff, reduceIte]; exact h2) (by simp only [s1, Nat.reduceEqDiff, reduceIte, h3]; exact (psu_y ins su g e).symm) (by simp only [s1, Nat.reduceEqDiff, reduceIte, upd_at]) (by simp only [s1, Nat.reduceEqDiff, reduceIte, upd_at])
      rw [pmR_s, ← q3] at k
      exact k
    · unfold chg at hc
      unfold chw at hw
      rw [if_neg e] at hc hw
      have hc2 : gsum (chg ins su g N A) (s + 1) = gsum (chg ins su g N A) s := hc
      have hw2 : gsum (chw ins su g N A) (s + 1) = gsum (chw ins su g N A) s := hw
      have k := ih (s + 1) n R (by omega) (by omega) h0 h1 h2 (by rw [psu_n ins su g e]; exact h3) (by rw [hc2]; exact h4) (by rw [hw2]; exact h5)
      rw [hc2] at k
      by_cases e1 : ins s = 0
      · rw [if_pos e1]
        exact k
      · rw [if_neg e1]
        by_cases e2 : su s = 0
        · rw [if_pos e2, if_pos (show nI (N * g s) < nI A from nI_lt (by
            rcases Nat.lt_or_ge (N * g s) A with z | z
            · exact z
            · exact absurd ⟨e1, e2, z⟩ e) (by omega))]
          exact k
        · rw [if_neg e2]
          exact k

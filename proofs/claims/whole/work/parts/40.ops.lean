theorem cnt_mono (f : Nat → Int32) {a b : Nat} (h : a ≤ b) : cnt f a ≤ cnt f b := by
  induction b with
  | zero =>
    obtain rfl : a = 0 := by omega
    exact Nat.le_refl _
  | succ b ih =>
    by_cases e : a = b + 1
    · subst e
      exact Nat.le_refl _
    · have := ih (by omega)
      show cnt f a ≤ cnt f b + _
      omega
theorem cnt_le (f : Nat → Int32) (m : Nat) : cnt f m ≤ m := by
  induction m with
  | zero => exact Nat.le_refl _
  | succ m ih =>
    unfold cnt
    split <;> omega
theorem cnt_eq {f g : Nat → Int32} {m : Nat} (h : ∀ p, p < m → f p = g p) : cnt f m = cnt g m := by
  induction m with
  | zero => rfl
  | succ m ih =>
    unfold cnt
    rw [ih (fun p hp => h p (by omega)), h m (by omega)]
theorem cnt_z {f : Nat → Int32} {m : Nat} (h : f m = 0) : cnt f (m + 1) = cnt f m := by
  show cnt f m + _ = _
  rw [if_pos h]
  rfl
theorem cnt_nz {f : Nat → Int32} {m : Nat} (h : ¬ f m = 0) : cnt f (m + 1) = cnt f m + 1 := by
  show cnt f m + _ = _
  rw [if_neg h]
theorem upd_upd (f : Nat → Int32) (k : Nat) (x y : Int32) : upd (upd f k x) k y = upd f k y := by
  funext j
  unfold upd
  split <;> rfl
theorem lcount (k : Int32 → Int32 → mm_M → Option (Int32 × mm_M)) (x : Int32) (R : mm_M) : ∀ (m s n : Nat), s + m = 40 → m < n → f_X12_letters_48 k n x (nI (cnt (R.1 15) s)) (nI s) R = k x (nI (cnt (R.1 15) 40)) R := by
  intro m
  induction m with
  | zero =>
    intro s n hs hn
    obtain ⟨n, rfl⟩ : ∃ q, n = q + 1 := ⟨n - 1, by omega⟩
    obtain rfl : s = 40 := by omega
    unfold f_X12_letters_48
    rw [if_pos (show (40 : Int32) ≤ nI 40 by decide +kernel)]
  | succ m ih =>
    intro s n hs hn
    obtain ⟨n, rfl⟩ : ∃ q, n = q + 1 := ⟨n - 1, by omega⟩
    unfold f_X12_letters_48 mI f_X12_letters_69
    rw [if_neg (show ¬ (40 : Int32) ≤ nI s from nI_ge (b := 40) (by omega) (by decide)), ckI (by omega) (by omega), clI (by omega)]
    simp only [let_, add1]
    by_cases e : R.1 15 s = 0
    · rw [if_pos e, show nI (cnt (R.1 15) s) + 0 = nI (cnt (R.1 15) (s + 1)) by rw [cnt_z e]; exact nI_add _ 0]
      exact ih (s + 1) n (by omega) (by omega)
    · rw [if_neg e, ← cnt_nz e]
      exact ih (s + 1) n (by omega) (by omega)
theorem nolet_r : ∀ (m s n : Nat) (R : mm_M), s + m = 40 → m < n → f_X12_noLetters_2 n (nI s) R = some (sA R 47 (fill (R.1 47) s 40 0)) := by
  intro m
  induction m with
  | zero =>
    intro s n R hs hn
    obtain ⟨n, rfl⟩ : ∃ q, n = q + 1 := ⟨n - 1, by omega⟩
    obtain rfl : s = 40 := by omega
    unfold f_X12_noLetters_2
    rw [if_pos (show (40 : Int32) ≤ nI 40 by decide +kernel), fill_e, sA_id]
  | succ m ih =>
    intro s n R hs hn
    obtain ⟨n, rfl⟩ : ∃ q, n = q + 1 := ⟨n - 1, by omega⟩
    unfold f_X12_noLetters_2
    rw [if_neg (show ¬ (40 : Int32) ≤ nI s from nI_ge (b := 40) (by omega) (by decide)), ckI (by omega) (by omega), clI (by omega), let_, add1, ih (s + 1) n _ (by omega) (by omega), a01, sI_sA, sA_sA, sA1, if_pos rfl, fill_s _ _ (by omega)]
theorem nolet_c : ∀ (m s n : Nat) (R : mm_M), s + m = 40 → m < n → f_X11_takeLettersAway_2 n (nI s) R = some (sI (sA R 16 (fill (R.1 16) s 40 0)) 0 15 0) := by
  intro m
  induction m with
  | zero =>
    intro s n R hs hn
    obtain ⟨n, rfl⟩ : ∃ q, n = q + 1 := ⟨n - 1, by omega⟩
    obtain rfl : s = 40 := by omega
    unfold f_X11_takeLettersAway_2
    rw [if_pos (show (40 : Int32) ≤ nI 40 by decide +kernel), fill_e, sA_id]
    rfl
  | succ m ih =>
    intro s n R hs hn
    obtain ⟨n, rfl⟩ : ∃ q, n = q + 1 := ⟨n - 1, by omega⟩
    unfold f_X11_takeLettersAway_2
    rw [if_neg (show ¬ (40 : Int32) ≤ nI s from nI_ge (b := 40) (by omega) (by decide)), ckI (by omega) (by omega), clI (by omega), let_, add1, ih (s + 1) n _ (by omega) (by omega), a01, sI_sA R, sA_sA, sA1, if_pos rfl, fill_s _ _ (by omega)]
/-- letters g put, z of them -/
def lt2 (C : mm_M) (g : Nat → Int32) (z : Int32) : mm_M := (fun a => if a = 16 then g else if a = 0 then upd (C.1 0) 15 z else C.1 a, C.2)
theorem lt2_1 (C : mm_M) (g : Nat → Int32) (z : Int32) (a : Nat) : (lt2 C g z).1 a = if a = 16 then g else if a = 0 then upd (C.1 0) 15 z else C.1 a := rfl
theorem lt2_s (C : mm_M) (s : Nat) (x y : Int32) (g : Nat → Int32) (z : Int32) : lt2 (sI (sI C 16 s x) 0 15 y) g z = lt2 C g z := by
  refine Prod.ext ?_ rfl
  funext a
  rw [lt2_1, lt2_1]
  by_cases e1 : a = 16
  · rw [if_pos e1, if_pos e1]
  · rw [if_neg e1, if_neg e1]
    by_cases e2 : a = 0
    · rw [if_pos e2, if_pos e2]
      simp only [s1, Nat.reduceEqDiff, reduceIte, upd_upd]
    · rw [if_neg e2, if_neg e2]
      simp only [s1, e1, e2, reduceIte]
theorem lt2_id (C : mm_M) : lt2 C (C.1 16) (C.1 0 15) = C := by
  refine Prod.ext ?_ rfl
  funext a
  rw [lt2_1, upd_id]
  by_cases e1 : a = 16
  · rw [if_pos e1, e1]
  · rw [if_neg e1]
    by_cases e2 : a = 0
    · rw [if_pos e2, e2]
    · rw [if_neg e2]
theorem let_l (x2 : Int32) : ∀ (m s nC nR e k r : Nat) (C R : mm_M) (f : Nat → Int32), s + m = 40 → m < nC → m < nR → e ≤ 99999 → C.1 51 = R.1 15 → C.1 16 = f → R.1 47 = f → r + cnt (R.1 15) s = cnt (R.1 15) 40 → k ≤ r → (∀ p, s ≤ p → p < 40 → f p = 0) → C.1 0 15 = nI (cnt f s) → i01 f → ∃ g, i01 g ∧ cnt g 40 = cnt f s + k ∧ f_X11_giveLetters_24 nC (nI e) (nI r) (nI k) (nI s) C = some (lt2 C g (nI (cnt g 40))) ∧ f_X12_letters_94 nR x2 (nI e) (nI k) (nI r) (nI s) R = some (x2 / 2, sA R 47 g) := by
  intro m
  induction m with
  | zero =>
    intro s nC nR e k r C R f hs h1 h2 h3 h4 h5 h6 h7 h8 h9 h10 h11
    obtain ⟨nC, rfl⟩ : ∃ q, nC = q + 1 := ⟨nC - 1, by omega⟩
    obtain ⟨nR, rfl⟩ : ∃ q, nR = q + 1 := ⟨nR - 1, by omega⟩
    obtain rfl : s = 40 := by omega
    refine ⟨f, h11, by omega, ?_, ?_⟩
    · unfold f_X11_giveLetters_24
      rw [if_pos (show (40 : Int32) ≤ nI 40 by decide +kernel), ← h10, ← h5, lt2_id]
    · unfold f_X12_letters_94
      rw [if_pos (show (40 : Int32) ≤ nI 40 by decide +kernel), ← h6, sA_id]
  | succ m ih =>
    intro s nC nR e k r C R f hs h1 h2 h3 h4 h5 h6 h7 h8 h9 h10 h11
    obtain ⟨nC, rfl⟩ : ∃ q, nC = q + 1 := ⟨nC - 1, by omega⟩
    obtain ⟨nR, rfl⟩ : ∃ q, nR = q + 1 := ⟨nR - 1, by omega⟩
    have hm := cnt_mono (R.1 15) (show s + 1 ≤ 40 by omega)
    have hc40 := cnt_le (R.1 15) 40
    have f0 : f s = 0 := h9 s (by omega) (by omega)
    unfold f_X11_giveLetters_24 f_X12_letters_94 mI
    unfold f_X11_giveLetters_98 f_X11_giveLetters_95 f_X12_letters_169 f_X12_letters_145 f_X12_letters_163
    unfold f_X11_giveLetters_98 f_X12_letters_169
    try unfold mI
    simp only [if_neg (show ¬ (40 : Int32) ≤ nI s from nI_ge (b := 40) (by omega) (by decide)), ckI (show s < 40 by omega) (show 40 ≤ 100000 by omega), clI (show s < 2 ^ 31 by omega), h4, let_, add1]
    by_cases e0 : R.1 15 s = 0
    · rw [if_pos e0, if_pos e0]
      rw [cnt_z e0] at hm
      obtain ⟨g, g1, g2, g3, g4⟩ := ih (s + 1) nC nR e k r C R f (by omega) (by omega) (by omega) h3 h4 h5 h6 (by rw [cnt_z e0]; exact h7) h8 (fun p hp hp2 => h9 p (by omega) hp2) (by rw [cnt_z f0]; exact h10) h11
      rw [cnt_z f0] at g2
      exact ⟨g, g1, g2, g3, g4⟩
    · rw [cnt_nz e0] at hm
      have hv : (nI e * 171 + 11213) - (nI e * 171 + 11213) / 53125 * 53125 = nI ((e * 171 + 11213) % 53125) := by
        rw [show nI e * 171 = nI (e * 171) from pk_mul e 171, show nI (e * 171) + 11213 = nI (e * 171 + 11213) from nI_add _ 11213]
        exact pk_rem (d := 53125) (by omega) (by decide) (by decide)
      have hlt := Nat.mod_lt (e * 171 + 11213) (show 53125 > 0 by decide)
      have hr0 : 0 < r := by omega
      have hmr := Nat.mod_lt ((e * 171 + 11213) % 53125) hr0
      have hnz : ∀ (α : Type) (X : Option α), mm_nz (nI r) X = X := by
        intro α X
        unfold mm_nz
        rw [if_neg (nI_ne0 hr0 (by omega))]
      rw [if_neg e0, if_neg e0, if_pos (c1le (by omega) (by omega))]
      simp only [hv, hnz, pk_rem (show (e * 171 + 11213) % 53125 < 2 ^ 31 by omega) hr0 (show r < 2 ^ 31 by omega)]
      obtain ⟨r', rfl⟩ : ∃ q, r = q + 1 := ⟨r - 1, by omega⟩
      by_cases c : k ≤ (e * 171 + 11213) % 53125 % (r' + 1)
      · have c' : nI k ≤ nI ((e * 171 + 11213) % 53125 % (r' + 1)) := nI_le c (by omega)
        rw [if_pos c', if_pos c', a01, pk_m1]
        have u0 : upd (R.1 47) s 0 = R.1 47 := by rw [h6, ← f0]; exact upd_id f s
        have e9 : sI R 47 s 0 = R := by rw [sI_sA, u0, sA_id]
        have e8 : nI k - 0 = nI k := pk_sub (b := 0) (by omega)
        rw [e9, h6, f0, if_pos rfl, e8]
        obtain ⟨g, g1, g2, g3, g4⟩ := ih (s + 1) nC nR ((e * 171 + 11213) % 53125) k r' C R f (by omega) (by omega) (by omega) (by omega) h4 h5 h6 (by rw [cnt_nz e0]; omega) (by omega) (fun p hp hp2 => h9 p (by omega) hp2) (by rw [cnt_z f0]; exact h10) h11
        rw [cnt_z f0] at g2
        exact ⟨g, g1, g2, g3, g4⟩
      · have c' : ¬ nI k ≤ nI ((e * 171 + 11213) % 53125 % (r' + 1)) := nI_ge (by omega) (by omega)
        obtain ⟨k', rfl⟩ : ∃ q, k = q + 1 := ⟨k - 1, by omega⟩
        rw [if_neg c', if_neg c', a11, pk_m1, pk_m1]
        have q1 : (sI R 47 s 1).1 47 s = 1 := by simp only [s1, upd_at, reduceIte]
        have q2 : (sI C 16 s 1).1 0 15 = nI (cnt f s) := by
          simp only [s1, Nat.reduceEqDiff, reduceIte]
          exact h10
        have q3 : cnt (upd f s 1) s = cnt f s := cnt_eq (fun p hp => by rw [upd_at, if_neg (by omega)])
        have q4 : cnt (upd f s 1) (s + 1) = cnt f s + 1 := by
          rw [cnt_nz (by rw [upd_at, if_pos rfl]; exact n10), q3]
        rw [q1, if_neg n10, nI_pred, q2, add1]
        obtain ⟨g, g1, g2, g3, g4⟩ := ih (s + 1) nC nR ((e * 171 + 11213) % 53125) k' r' (sI (sI C 16 s 1) 0 15 (nI (cnt f s + 1))) (sI R 47 s 1) (upd f s 1) (by omega) (by omega) (by omega) (by omega) (by simp only [s1, Nat.reduceEqDiff, reduceIte]; exact h4) (by simp only [s1, Nat.reduceEqDiff, reduceIte, h5]) (by simp only [s1, Nat.reduceEqDiff, reduceIte, h6]) (by simp only [s1, Nat.reduceEqDiff, reduceIte]; rw [cnt_nz e0]; omega) (by omega) (fun p hp hp2 => by rw [upd_at, if_neg (by omega)]; exact h9 p (by omega) hp2) (by simp only [s1, Nat.reduceEqDiff, reduceIte, upd_at, q4]) (by
          intro p hp
          rw [upd_at]
          split
          · exact ⟨1, rfl, by omega, by omega⟩
          · exact h11 p hp)
        rw [q4] at g2
        refine ⟨g, g1, by omega, ?_, ?_⟩
        · rw [g3, lt2_s]
        · rw [g4, sI_sA, sA_sA]

/-! what calls that only ask may change -/
def frC (a : Nat) : Bool := a == 7 || a == 8 || a == 10 || a == 11 || a == 12 || (Nat.ble 17 a && Nat.ble a 25) || a == 50 || (Nat.ble 55 a && Nat.ble a 58) || (Nat.ble 60 a && Nat.ble a 61) || (Nat.ble 64 a && Nat.ble a 67) || a == 73 || a == 74
def frR (a : Nat) : Bool := a == 0 || a == 18 || (Nat.ble 24 a && Nat.ble a 27) || (Nat.ble 35 a && Nat.ble a 46) || a == 48
def frZ (j : Nat) : Bool := !(j == 0 || j == 1 || j == 2 || j == 17 || j == 27 || j == 28 || j == 43 || j == 60 || j == 70)
def kC (C C' : mm_M) : Prop := ∀ a, frC a = false → C'.1 a = C.1 a
def kR (R R' : mm_M) : Prop := (∀ a, frR a = false → R'.1 a = R.1 a) ∧ ∀ j, frZ j = false → R'.1 0 j = R.1 0 j
theorem kC_r (C : mm_M) : kC C C := fun _ _ => rfl
theorem kR_r (C : mm_M) : kR C C := ⟨fun _ _ => rfl, fun _ _ => rfl⟩
theorem kC_t {A B C : mm_M} (h : kC A B) (g : kC B C) : kC A C := fun a ha => (g a ha).trans (h a ha)
theorem kR_t {A B C : mm_M} (h : kR A B) (g : kR B C) : kR A C := ⟨fun a ha => (g.1 a ha).trans (h.1 a ha), fun j hj => (g.2 j hj).trans (h.2 j hj)⟩
theorem neC {a b : Nat} (h : frC a = false) (hb : frC b = true) : a ≠ b := fun e => by rw [e, hb] at h; cases h
theorem neR {a b : Nat} (h : frR a = false) (hb : frR b = true) : a ≠ b := fun e => by rw [e, hb] at h; cases h
theorem neZ {a b : Nat} (h : frZ a = false) (hb : frZ b = true) : a ≠ b := fun e => by rw [e, hb] at h; cases h
theorem kC_sI (C : mm_M) (o i : Nat) (v : Int32) (ho : frC o = true) : kC C (sI C o i v) := fun a ha => by rw [s1, if_neg (neC ha ho)]
theorem kC_sL (C : mm_M) (o i : Nat) (v : Int64) : kC C (sL C o i v) := fun _ _ => rfl
theorem kR_sL (C : mm_M) (o i : Nat) (v : Int64) : kR C (sL C o i v) := ⟨fun _ _ => rfl, fun _ _ => rfl⟩
theorem kC_sA (C : mm_M) (o : Nat) (v : Nat → Int32) (ho : frC o = true) : kC C (sA C o v) := fun a ha => by rw [sA1, if_neg (neC ha ho)]
theorem kR_sI (C : mm_M) (o i : Nat) (v : Int32) (ho : frR o = true) (h0 : o ≠ 0) : kR C (sI C o i v) := ⟨fun a ha => by rw [s1, if_neg (neR ha ho)], fun j hj => by rw [s1, if_neg h0.symm]⟩
theorem kR_s0 (C : mm_M) (i : Nat) (v : Int32) (ho : frZ i = true) : kR C (sI C 0 i v) := ⟨fun a ha => by rw [s1, if_neg (neR ha rfl)], fun j hj => by rw [s1, if_pos rfl, upd_at, if_neg (neZ hj ho)]⟩
theorem kC_7 {C C' : mm_M} (h : kp7 C C') : kC C C' := fun a ha => h.1 a (neC ha rfl) (neC ha rfl) (neC ha rfl) (neC ha rfl)
theorem kR_F {C C' : mm_M} (h : kpF C C') : kR C C' := ⟨fun a ha => h.1 a (neR ha rfl) (neR ha rfl), fun j hj => h.2 j (neZ hj rfl) (neZ hj rfl)⟩
theorem kR_T {C C' : mm_M} (h : kpT C C') : kR C C' := ⟨fun a ha => h.1 a (neR ha rfl) (neR ha rfl) (neR ha rfl), fun j hj => h.2 j (neZ hj rfl) (neZ hj rfl) (neZ hj rfl) (neZ hj rfl) (neZ hj rfl)⟩
theorem rel_k {C R C' R' : mm_M} (h : Rel C R) (hc : kC C C') (hr : kR R R') : Rel C' R' := by
  unfold kC at hc
  unfold kR at hr
  obtain ⟨hr1, hr2⟩ := hr
  unfold Rel rBase Inv iScal at *
  simp (disch := decide) only [hc, hr1, hr2]
  exact h
theorem most_l {b : Nat} (hb : b ≤ 20000) : ∀ (m nC nR : Nat) (C R : mm_M), m ≤ 40 → m < nC → m < nR → Rel C R → ends (f_X11_most_39 nC (nI b) (nI m) C) (f_X12_most_47 nR (nI b) (nI m) R) := by
  intro m
  induction m with
  | zero =>
    intro nC nR C R hm h1 h2 h
    obtain ⟨nC, rfl⟩ : ∃ q, nC = q + 1 := ⟨nC - 1, by omega⟩
    obtain ⟨nR, rfl⟩ : ∃ q, nR = q + 1 := ⟨nR - 1, by omega⟩
    unfold f_X11_most_39 f_X12_most_47
    rw [if_pos (show nI 0 < 1 by decide +kernel), if_pos (show nI 0 ≤ 0 by decide +kernel)]
    exact ends_of h
  | succ m ih =>
    intro nC nR C R hm h1 h2 h
    obtain ⟨nC, rfl⟩ : ∃ q, nC = q + 1 := ⟨nC - 1, by omega⟩
    obtain ⟨nR, rfl⟩ : ∃ q, nR = q + 1 := ⟨nR - 1, by omega⟩
    have h' := h
    obtain ⟨⟨⟨bd, bn, bt, bu, bv, bw, bl⟩, ⟨sa, sb, sc, sd, se, sf, sg, sh⟩, ⟨ka, kb, kc, kd, ke⟩, ⟨ta, tb, tc, td, te, tf, tg⟩, ⟨ra, rb, rc, rd, re_, rf⟩, ⟨qa, qb, qc, qd, qe⟩⟩, hr, hl, hw, d, n, t, u, v, w, ⟨⟨⟨id1, id2⟩, ⟨in1, in2⟩, ⟨it1, it2⟩, ⟨iu1, iu2⟩, ⟨iv1, iv2⟩, ⟨iw1, iw2⟩, ilv⟩, jS, jK, jT, jR, jC, jB, jM, jD, jL⟩, hrule, hhome⟩ := h'
    have hn := bn.trans in1
    obtain ⟨C1, R1, su, r, q, g1, g2, g3, g4, g5, g6, g7, g8, g9, g10, g11, g12⟩ := sure_ok7 (C := C) (R := R) (n := n) (a := m + 1) (op := R.1 6) (we := R.1 5) hn sf se in1 rfl rfl in2 (fun j hj => (jS.1 j hj).2.2.2.2.2.1) (fun j hj => (jS.1 j hj).2.2.2.2.1) hm (by omega)
    have kC1 := kC_7 g10
    have kR1 := kR_F g11
    have hrel := rel_k h kC1 kR1
    unfold f_X11_most_39 f_X12_most_47 f_X12_isPaid f_X2_costsAtMost_7
    rw [if_neg (show ¬ nI (m + 1) < 1 from nI_nlt (b := 1) (by omega) (by omega)), if_neg (nI_nle (by omega) (by omega)), g1, g2, bv_, bv_, let_, nI_l (by omega)]
    have hi0 : ∀ j, j < 40 → ¬ C1.1 56 j = 0 → j < n ∧ ¬ R.1 6 j = 0 := by
      intro j hj z
      rw [(g3 j hj).1] at z
      unfold dIns at z
      by_cases y : j < n ∧ ¬ R.1 6 j = 0
      · exact y
      · rw [if_neg y] at z
        exact absurd rfl z
    have hi1 : ∀ j, j < n → (R.1 6 j = 0 ↔ C1.1 56 j = 0) := by
      intro j hj
      rw [(g3 j (by omega)).1]
      unfold dIns
      by_cases y : R.1 6 j = 0
      · rw [if_neg (fun z => z.2 y)]
        exact iff_of_true y rfl
      · rw [if_pos ⟨hj, y⟩]
        exact iff_of_false y n10
    have hkd : ∀ j, j < 40 → ¬ C1.1 56 j = 0 → R.1 1 j = nI (nN (R.1 1 j)) ∧ nN (R.1 1 j) ≤ 4 := by
      intro j hj z
      have y := rng_n (jS.1 j (hi0 j hj z).1).1 (by omega)
      exact ⟨y.1, y.2.2⟩
    have hco : ∀ k, k < 5 → R.1 54 k = nI (nN (R.1 54 k)) ∧ nN (R.1 54 k) ≤ 500 := by
      intro k hk
      have y := rng_n (jM k hk) (by omega)
      exact ⟨y.1, y.2.2⟩
    have q1 := cost7 (C := C1) (b := b) (ins := C1.1 56) (su := su) (g := dWe n (R.1 6) (R.1 5)) (kd := fun j => nN (R.1 1 j)) (co := fun k => nN (R.1 54 k)) (fun j hj => ⟨rfl, (g3 j hj).2⟩) g4 (fun j hj z => by rw [kC1 26 rfl, sa]; exact hkd j hj z) (fun k hk => by rw [kC1 15 rfl, rd]; exact (hco k hk).1) f_X2_costsAtMost_7_95
    have q2 := paid14 (R := R1) (n := n) (b := b) (r := r) (ins := C1.1 56) (su := su) (g := dWe n (R.1 6) (R.1 5)) (kd := fun j => nN (R.1 1 j)) (co := fun k => nN (R.1 54 k)) in2 (by rw [kR1.2 2 rfl]; exact in1) (fun j j1 j2 => by rw [(g3 j j2).1]; exact if_neg (by omega)) (fun j hj => ⟨by rw [kR1.1 6 rfl]; exact hi1 j hj, g7 j hj, fun z => ⟨by
        rw [kR1.1 5 rfl]
        have y := hi0 j (by omega) z
        unfold dWe
        rw [if_pos y]
        exact (rng_n (jS.1 j hj).2.2.2.2.1 (by omega)).1, (g12.1 j (by omega)).2.2.1, by rw [kR1.1 1 rfl]; exact (hkd j (by omega) z).1, (hkd j (by omega) z).2⟩⟩) (fun k hk => by rw [kR1.1 54 rfl]; exact hco k hk) (fun ⟨j, j1, j2, j3⟩ => g9 (by have := (g12.1 j (by omega)).2.2.2.2 j2 j3; omega)) g12.2.1 f_X12_isPaid_116
    have hcc : ∀ j, j < 40 → ¬ C1.1 56 j = 0 → nN (R.1 54 (nN (R.1 1 j))) ≤ 500 := fun j hj z => (hco _ (by have := (hkd j hj z).2; omega)).2
    obtain ⟨x, x1, x2, x3⟩ := paid_eq (C := C1) (R := R1) (b := b) (S := gsum (sCo (C1.1 56) su (fun j => nN (R.1 54 (nN (R.1 1 j))))) 40) (O := gsum (oCo (C1.1 56) su (dWe n (R.1 6) (R.1 5)) (fun j => nN (R.1 54 (nN (R.1 1 j))))) 40) hb (sCo_le hcc (by omega)) (oCo_le hcc (fun j hj => (g12.1 j hj).2.2.1) (by omega)) g12.2.1 (drw_q g12) g5 g6 g8
    rw [show f_X2_costsAtMost_7_9 f_X2_costsAtMost_7_95 mm_fu (nI b) 0 0 0 C1 = some (x, C1) from q1.trans x2, show f_X12_isPaid_14 f_X12_isPaid_116 mm_fu (lN b) 0 0 R1 = some (x, R1) from q2.trans x3, bi_, bi_]
    rcases x1 with z | z
    · rw [z, if_pos rfl, if_pos rfl, pk_m1]
      exact ih nC nR C1 R1 (by omega) (by omega) (by omega) hrel
    · rw [z, if_neg n10, if_neg n10]
      exact ends_of hrel
theorem ok_most (a : Int32) : op_i Rel (f_X11_most a) (f_X12_most a) := by
  intro C R h
  unfold f_X12_most
  rw [let_]
  have h := rel_t h 0
  generalize sI R 0 0 0 = R at h ⊢
  show ends _ _
  unfold f_X11_most
  try unfold mI
  have h' := h
  obtain ⟨⟨⟨bd, bn, bt, bu, bv, bw, bl⟩, ⟨sa, sb, sc, sd, se, sf, sg, sh⟩, ⟨ka, kb, kc, kd, ke⟩, ⟨ta, tb, tc, td, te, tf, tg⟩, ⟨ra, rb, rc, rd, re_, rf⟩, ⟨qa, qb, qc, qd, qe⟩⟩, hr, hl, hw, d, n, t, u, v, w, ⟨⟨⟨id1, id2⟩, ⟨in1, in2⟩, ⟨it1, it2⟩, ⟨iu1, iu2⟩, ⟨iv1, iv2⟩, ⟨iw1, iw2⟩, ilv⟩, jS, jK, jT, jR, jC, jB, jM, jD, jL⟩, hrule, hhome⟩ := h'
  simp only [bi_id]
  have hn := bn.trans in1
  have hcn := cnt_le (R.1 6) n
  rw [openOnes_ok hn in2, openMany_ok in1 in2, bi_, bi_, sf]
  by_cases c0 : cnt (R.1 6) n = 0
  · rw [c0, if_pos (show nI 0 = 0 from rfl), if_pos (show nI 0 = 0 from rfl)]
    exact ref3 h
  · rw [if_neg (nI_ne0 (by omega) (by omega)), if_neg (nI_ne0 (by omega) (by omega))]
    rcases out_of (a := a) (lo := 0) (hi := 20000) C with ⟨q1, q2, q3⟩ | ⟨q1, q2, q3⟩ | ⟨q1, q3⟩
    · rw [q3, bi_, if_pos rfl, if_pos q1, if_pos q2]
      obtain ⟨e, rfl, e1, e2⟩ := num_of (lo := 0) (hi := 20000) 0 20000 rfl rfl (by omega) (by omega) q1 q2
      exact most_l e2 40 mm_fu mm_fu C R (by omega) (fuGt (by omega)) (fuGt (by omega)) h
    · rw [q3, bi_, if_neg (by rw [z6]; exact id), if_pos q1, if_neg q2]
      exact ref6 h
    · rw [q3, bi_, if_neg (by rw [z4]; exact id), if_neg q1]
      exact ref4 h

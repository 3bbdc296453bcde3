theorem and255 (y : BitVec 64) : (y &&& 255#64).toNat = y.toNat % 256 := by
  rw [BitVec.toNat_and]
  exact Nat.and_two_pow_sub_one_eq_mod y.toNat 8
theorem byI (x : Int64) : (x &&& 255).toInt32 = nI (x.toBitVec.toNat % 256) := by
  apply Int32.toBitVec_inj.mp
  apply BitVec.eq_of_toNat_eq
  rw [pk_tn (by omega), Int64.toBitVec_toInt32, BitVec.signExtend_eq_setWidth_of_le _ (by decide), BitVec.toNat_setWidth, Int64.toBitVec_and]
  show (x.toBitVec &&& 255#64).toNat % 2 ^ 32 = _
  rw [and255]
  omega
theorem shC (x : Int64) : ((x).toUInt64 >>> (((8 : Int32)).toInt64.toUInt64 &&& Int64.toUInt64 63)).toInt64.toBitVec.toNat = x.toBitVec.toNat / 256 := by
  rw [show (((8 : Int32)).toInt64.toUInt64 &&& Int64.toUInt64 63) = (8 : UInt64) by decide +kernel]
  show (x.toUInt64 >>> (8 : UInt64)).toNat = _
  rw [UInt64.toNat_shiftRight, Nat.shiftRight_eq_div_pow]
  rfl
theorem ssh (y : BitVec 64) {s : Nat} (hs : s ≤ 56) : (y.sshiftRight s).toNat % 256 = y.toNat / 2 ^ s % 256 := by
  have e : (y.sshiftRight s) &&& 255#64 = (y >>> s) &&& 255#64 := by
    apply BitVec.eq_of_getLsbD_eq
    intro i hi
    rw [BitVec.getLsbD_and, BitVec.getLsbD_and, BitVec.getLsbD_ushiftRight, BitVec.getLsbD_sshiftRight]
    by_cases h8 : i < 8
    · have e1 : s + i < 64 := by omega
      have e2 : decide (64 ≤ i) = false := by
        apply decide_eq_false
        omega
      rw [if_pos e1, e2]
      rfl
    · have e3 : (255#64).getLsbD i = false := by
        show (BitVec.ofNat 64 255).getLsbD i = false
        rw [BitVec.getLsbD_ofNat, Nat.testBit_lt_two_pow (Nat.lt_of_lt_of_le (show 255 < 2 ^ 8 by decide) (Nat.pow_le_pow_right (by decide) (by omega))), Bool.and_false]
      rw [e3, Bool.and_false, Bool.and_false]
  have e2 := congrArg BitVec.toNat e
  rw [and255, and255, BitVec.toNat_ushiftRight, Nat.shiftRight_eq_div_pow] at e2
  exact e2
theorem byR (x : Int64) {k : Nat} (hk : k < 8) : ((x >>> ((((8 : Int32) * nI k)).toInt64 &&& 63)) &&& (255 : Int64)).toInt32 = nI (x.toBitVec.toNat / 2 ^ (8 * k) % 256) := by
  rw [byI, Int64.toBitVec_shiftRight, BitVec.sshiftRight_eq', ← ssh x.toBitVec (show 8 * k ≤ 56 by omega)]
  have e : (((((8 : Int32) * nI k)).toInt64 &&& 63).toBitVec.smod 64).toNat = 8 * k := by
    rcases (show k = 0 ∨ k = 1 ∨ k = 2 ∨ k = 3 ∨ k = 4 ∨ k = 5 ∨ k = 6 ∨ k = 7 by omega) with rfl | rfl | rfl | rfl | rfl | rfl | rfl | rfl <;> decide +kernel
  rw [e]
theorem sx (M : mm_M) {o o2 p i : Nat} {b y z : Int32} {g : Nat → Int32} (h : o ≠ o2) : sI (sA (sI (sI M o p b) o2 i y) o g) o2 i z = sI (sA M o g) o2 i z := by
  refine Prod.ext ?_ rfl
  funext a
  simp only [s1, sA1]
  by_cases e2 : a = o2
  · subst e2
    simp only [reduceIte, if_neg (Ne.symm h), upd_upd]
  · by_cases e1 : a = o
    · subst e1
      simp only [reduceIte, if_neg e2]
    · simp only [if_neg e1, if_neg e2]
theorem sx0 (M : mm_M) {o o2 i : Nat} (h : o ≠ o2) : sI (sA M o (M.1 o)) o2 i (M.1 o2 i) = M := by
  rw [sA_id, sI_sA, upd_id, sA_id]
theorem feed_l (x : Int64) {a : Nat} (ha : a ≤ 8) : ∀ (m s nC nR v : Nat) (y : Int64) (C R : mm_M), s + m = a → m < nC → m < nR → C.1 59 = R.1 19 → C.1 9 2 = nI v → R.1 0 27 = nI v → v + m ≤ 80 → y.toBitVec.toNat = x.toBitVec.toNat / 2 ^ (8 * s) → iTape (R.1 19) → ∃ g, iTape g ∧ f_X8_append_6 nC (nI a) y (nI s) C = some (nI (v + m), sI (sA C 59 g) 9 2 (nI (v + m))) ∧ f_X12_feed_44 nR (nI a) x (nI s) R = some (nI (v + m), sI (sA R 19 g) 0 27 (nI (v + m))) := by
  intro m
  induction m with
  | zero =>
    intro s nC nR v y C R hs h1 h2 h3 h4 h5 h6 h7 h8
    obtain ⟨nC, rfl⟩ : ∃ q, nC = q + 1 := ⟨nC - 1, by omega⟩
    obtain ⟨nR, rfl⟩ : ∃ q, nR = q + 1 := ⟨nR - 1, by omega⟩
    obtain rfl : s = a := by omega
    refine ⟨R.1 19, h8, ?_, ?_⟩
    · unfold f_X8_append_6 mI
      rw [if_pos (nI_le (by omega) (by omega)), ← h3, Nat.add_zero, ← h4, sx0 C (by omega)]
    · unfold f_X12_feed_44 mI
      rw [if_pos (nI_le (by omega) (by omega)), Nat.add_zero, ← h5, sx0 R (by omega)]
  | succ m ih =>
    intro s nC nR v y C R hs h1 h2 h3 h4 h5 h6 h7 h8
    obtain ⟨nC, rfl⟩ : ∃ q, nC = q + 1 := ⟨nC - 1, by omega⟩
    obtain ⟨nR, rfl⟩ : ∃ q, nR = q + 1 := ⟨nR - 1, by omega⟩
    have hp := Nat.mod_lt (x.toBitVec.toNat / 2 ^ (8 * s)) (show 256 > 0 by decide)
    unfold f_X8_append_6 f_X12_feed_44 mI
    simp only [if_neg (nI_ge (show s < a by omega) (show a < 2 ^ 31 by omega)), h4, h5, if_neg (show ¬ (80 : Int32) ≤ nI v from nI_ge (b := 80) (by omega) (by decide)), ckI (show v < 80 by omega) (show 80 ≤ 100000 by omega), clI (show v < 2 ^ 31 by omega), let_, byI y, h7, byR x (show s < 8 by omega), s1, Nat.reduceEqDiff, reduceIte, add1]
    obtain ⟨g, g1, g2, g3⟩ := ih (s + 1) nC nR (v + 1) ((y).toUInt64 >>> (((8 : Int32)).toInt64.toUInt64 &&& Int64.toUInt64 63)).toInt64 (sI (sI C 59 v (nI (x.toBitVec.toNat / 2 ^ (8 * s) % 256))) 9 2 (nI (v + 1))) (sI (sI R 19 v (nI (x.toBitVec.toNat / 2 ^ (8 * s) % 256))) 0 27 (nI (v + 1))) (by omega) (by omega) (by omega) (by simp only [s1, Nat.reduceEqDiff, reduceIte, h3]) (by simp only [s1, upd_at, reduceIte]) (by simp only [s1, upd_at, reduceIte]) (by omega) (by rw [shC, h7, Nat.div_div_eq_div_mul, show 8 * (s + 1) = 8 * s + 8 from by omega, Nat.pow_add]) (by
      intro k hk
      simp only [s1, Nat.reduceEqDiff, reduceIte, upd_at]
      split
      · exact ⟨_, rfl, Nat.zero_le _, by omega⟩
      · exact h8 k hk)
    refine ⟨g, g1, ?_, ?_⟩
    · rw [g2, sx C (by omega), show v + 1 + m = v + (m + 1) from by omega]
    · rw [g3, sx R (by omega), show v + 1 + m = v + (m + 1) from by omega]
theorem ok_feed (a : Int32) (x : Int64) : op_i Rel (f_X11_feed a x) (f_X12_feed a x) := by
  intro C R h
  unfold f_X12_feed
  rw [let_]
  have h := rel_t h 0
  generalize sI R 0 0 0 = R at h ⊢
  show ends _ _
  unfold f_X11_feed
  try unfold mI
  have h' := h
  obtain ⟨⟨⟨bd, bn, bt, bu, bv, bw, bl⟩, ⟨sa, sb, sc, sd, se, sf, sg, sh⟩, ⟨ka, kb, kc, kd, ke⟩, ⟨ta, tb, tc, td, te, tf, tg⟩, ⟨ra, rb, rc, rd, re_, rf⟩, ⟨qa, qb, qc, qd, qe⟩⟩, hr, hl, hw, d, n, t, u, v, w, ⟨⟨⟨id1, id2⟩, ⟨in1, in2⟩, ⟨it1, it2⟩, ⟨iu1, iu2⟩, ⟨iv1, iv2⟩, ⟨iw1, iw2⟩, ilv⟩, jS, jK, jT, jR, jC, jB, jM, jD, jL⟩, hrule, hhome⟩ := h'
  unfold f_X11_feed_32 f_X12_feed_34
  simp only [bi_id]
  by_cases c1 : 1 ≤ a
  · rw [if_pos c1, if_pos c1]
    by_cases c8 : (8 : Int32) < a
    · rw [if_pos c8, if_pos c8]
      exact ref6 h
    · rw [if_neg c8, if_neg c8]
      obtain ⟨e, rfl, e1, e2⟩ := num_of (lo := 1) (hi := 8) 1 8 rfl rfl (by omega) (by omega) c1 (nlt_le.mp c8)
      rw [bv, iv1, show (80 : Int32) - nI v = nI (80 - v) from pk_sub (a := 80) iv2, nI_add]
      by_cases c : v + e ≤ 80
      · rw [if_pos (nI_le (show e ≤ 80 - v by omega) (by omega)), if_pos (show nI (v + e) ≤ 80 from nI_le (b := 80) c (by decide))]
        unfold f_X8_append
        obtain ⟨g, g1, g2, g3⟩ := feed_l x e2 e 0 mm_fu mm_fu v x C R (by omega) (fuGt (by omega)) (fuGt (by omega)) rc (bv.trans iv1) iv1 c (by rw [Nat.mul_zero, Nat.pow_zero, Nat.div_one]) jB
        rw [show nI 0 = 0 from rfl] at g2 g3
        rw [g2, g3]
        refine ends_of ?_
        unfold Rel rBase Inv iScal
        simp only [s1, s2, l1, l2, sA1, sA2, upd_at, Nat.reduceEqDiff, reduceIte]
        exact ⟨⟨⟨bd, bn, bt, bu, trivial, bw, bl⟩, ⟨sa, sb, sc, sd, se, sf, sg, sh⟩, ⟨ka, kb, kc, kd, ke⟩, ⟨ta, tb, tc, td, te, tf, tg⟩, ⟨ra, rb, trivial, rd, re_, rf⟩, ⟨qa, qb, qc, qd, qe⟩⟩, hr, hl, hw, d, n, t, u, v + e, w, ⟨⟨⟨id1, id2⟩, ⟨in1, in2⟩, ⟨it1, it2⟩, ⟨iu1, iu2⟩, ⟨rfl, c⟩, ⟨iw1, iw2⟩, ilv⟩, jS, jK, jT, jR, jC, g1, jM, jD, jL⟩, hrule, hhome⟩
      · rw [if_neg (nI_ge (show 80 - v < e by omega) (by omega)), if_neg (show ¬ nI (v + e) ≤ 80 from nI_ge (a := 80) (by omega) (by omega))]
        exact ref6 h
  · rw [if_neg c1, if_neg c1]
    exact ref4 h

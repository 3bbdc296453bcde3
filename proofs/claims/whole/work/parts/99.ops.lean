/-! the plan, on both sides -/
def frW (a : Nat) : Bool := frC a || a == 62 || a == 63
def kW (C C' : mm_M) : Prop := (∀ a, frW a = false → C'.1 a = C.1 a) ∧ C'.1 62 8 = C.1 62 8 ∧ C'.1 63 8 = C.1 63 8
theorem rel_w {C R C' R' : mm_M} (h : Rel C R) (hc : kW C C') (hr : kR R R') : Rel C' R' := by
  unfold kW at hc
  unfold kR at hr
  obtain ⟨hr1, hr2⟩ := hr
  obtain ⟨hc, w1, w2⟩ := hc
  unfold Rel rBase Inv iScal at *
  simp (disch := decide) only [hc, hr1, hr2]
  obtain ⟨h1, h2, h3, h4, d, n, t, u, v, w, h5, h6, h7⟩ := h
  refine ⟨h1, h2, h3, h4, d, n, t, u, v, w, h5, h6, ?_⟩
  unfold rHome at *
  rw [w1, w2]
  exact h7
theorem exB (P : Nat → Prop) : ∃ ok : Nat → Bool, ∀ w, ok w = true ↔ P w := ⟨fun w => @decide (P w) (Classical.propDecidable _), fun w => @decide_eq_true_iff (P w) (Classical.propDecidable _)⟩
theorem neW {a b : Nat} (h : frW a = false) (hb : frW b = true) : a ≠ b := fun e => by rw [e, hb] at h; cases h
/-- what both hold after planning -/
def Pl (W : Nat) (px py sh : Nat → Nat) (V : Nat → Nat → Nat) (o : Option Nat) (C R : mm_M) : Prop := plC W px py sh C ∧ plR W px py sh R ∧ VOk W px py V ∧ (∀ a b, vl W a → vl W b → Lg px py a b ≤ 120) ∧ cOk W V C (2 ^ W) ∧ (∀ s, s < 2 ^ W → ∀ l, vl W l → R.1 46 (9 * s + l) = nI (V s l)) ∧ cSt W (loF W (tOf V)) (soF W (tOf V)) C o ∧ rSt W (loF W (tOf V)) (soF W (tOf V)) R o ∧ ∀ b, o = some b → b < 2 ^ W
theorem plan_all {C R : mm_M} (h : Rel C R) {a b : Nat} (ha : a < 8) (hb : b < 8) : ∃ C' R' W px py sh V o, f_X11_planWork (nI a) (nI b) C = some C' ∧ f_X12_findWork (nI a) (nI b) R = some R' ∧ kW C C' ∧ kR R R' ∧ Pl W px py sh V o C' R' := by
  have h' := h
  obtain ⟨⟨⟨bd, bn, bt, bu, bv, bw, bl⟩, ⟨sa, sb, sc, sd, se, sf, sg, sh_⟩, ⟨ka, kb, kc, kd, ke⟩, ⟨ta, tb, tc, td, te, tf, tg⟩, ⟨ra, rb, rc, rd, re_, rf⟩, ⟨qa, qb, qc, qd, qe⟩⟩, hr, hl, hw, d, n, t, u, v, w, ⟨⟨⟨id1, id2⟩, ⟨in1, in2⟩, ⟨it1, it2⟩, ⟨iu1, iu2⟩, ⟨iv1, iv2⟩, ⟨iw1, iw2⟩, ilv⟩, jS, jK, jT, jR, jC, jB, jM, jD, jL⟩, hrule, hhome⟩ := h'
  obtain ⟨z, z1, z2, z3⟩ := ilv
  unfold f_X11_planWork f_X4_clear f_X12_findWork
  rw [let_, bv_, let_]
  obtain ⟨C1, g1, g2⟩ := pw9 (C := sI C 10 7 0) (n := n) (t := t) (a := a) (b := b) (by simp only [s1, s2, l1, l2, upd_at, Nat.reduceEqDiff, reduceIte]; exact bn.trans in1) in2 (by simp only [s1, s2, l1, l2, upd_at, Nat.reduceEqDiff, reduceIte]; exact bt.trans it1) it2 ha hb (by simp only [s1, s2, l1, l2, upd_at, Nat.reduceEqDiff, reduceIte]) f_X11_planWork_88
  obtain ⟨R1, k1, k2⟩ := fw7 (R := sI R 0 62 0) (n := n) (by simp only [s1, s2, l1, l2, upd_at, Nat.reduceEqDiff, reduceIte]; exact in1) in2 (by simp only [s1, s2, l1, l2, upd_at, Nat.reduceEqDiff, reduceIte]) (nI a) (nI b) f_X12_findWork_68
  rw [g1, k1]
  unfold pI at g2
  unfold qI at k2
  simp only [s1, s2, l1, l2, upd_at, Nat.reduceEqDiff, reduceIte] at g2 k2
  rw [rf, sf, ke, ta, tb, tg, sc, sd] at g2
  obtain ⟨g3, g4, g5, g6, g7⟩ := g2
  obtain ⟨k3, k4, k5, k6⟩ := k2
  obtain ⟨hW, hsh⟩ := stW_le (R.1 15) (R.1 6) n
  generalize (stW (R.1 15) (R.1 6) n).1 = W at *
  generalize (stW (R.1 15) (R.1 6) n).2 = sh at *
  have hxy : ∀ s, s < n → R.1 3 s = nI (nN (R.1 3 s)) ∧ nN (R.1 3 s) ≤ 60 ∧ R.1 4 s = nI (nN (R.1 4 s)) ∧ nN (R.1 4 s) ≤ 60 := by
    intro s hs
    have y1 := rng_n (jS.1 s hs).2.2.1 (by omega)
    have y2 := rng_n (jS.1 s hs).2.2.2.1 (by omega)
    exact ⟨y1.1, y1.2.2, y2.1, y2.2.2⟩
  have h256 := w256 hW
  obtain ⟨px, hpx⟩ : ∃ px : Nat → Nat, px = fun i => if i = 8 then 0 else nN (R.1 3 (sh i)) := ⟨_, rfl⟩
  obtain ⟨py, hpy⟩ : ∃ py : Nat → Nat, py = fun i => if i = 8 then 0 else nN (R.1 4 (sh i)) := ⟨_, rfl⟩
  have p8 : px 8 = 0 ∧ py 8 = 0 := by rw [hpx, hpy]; exact ⟨rfl, rfl⟩
  have pW : ∀ i, i < W → px i = nN (R.1 3 (sh i)) ∧ py i = nN (R.1 4 (sh i)) := by
    intro i hi
    rw [hpx, hpy]
    exact ⟨if_neg (by omega), if_neg (by omega)⟩
  have hC1 : plC W px py sh C1 := by
    refine ⟨g4, hW, fun i hi => ?_, fun i hi => (g7 i hi).1⟩
    rcases hi with y | y
    · obtain ⟨y1, y2, y3, y4, y5⟩ := g7 i y
      obtain ⟨q1, q2, q3, q4⟩ := hxy (sh i) (hsh i y)
      obtain ⟨r1, r2⟩ := pW i y
      rw [y2, y3, r1, r2]
      exact ⟨q1, q3, q2, q4⟩
    · rw [y, g5, g6, p8.1, p8.2, hhome.1, hhome.2]
      exact ⟨rfl, rfl, by omega, by omega⟩
  have hR1 : plR W px py sh R1 := by
    refine ⟨k5, hW, p8, fun i hi => ?_⟩
    obtain ⟨q1, q2, q3, q4⟩ := hxy (sh i) (hsh i hi)
    obtain ⟨r1, r2⟩ := pW i hi
    have := hsh i hi
    have e3 := k3 3 (by omega) (by omega)
    have e4 := k3 4 (by omega) (by omega)
    simp only [Nat.reduceEqDiff, reduceIte] at e3 e4
    rw [e3, e4, r1, r2]
    exact ⟨k6 i hi, by omega, q1, q3, q2, q4⟩
  have hkn : ∀ j, j < t → rng (R.1 33 j) 0 d := by
    intro j hj
    obtain ⟨_, _, _, _, _, _, _, _, _, _, _, _, _, y, _⟩ := jT.1 j hj
    exact y
  have hvo : ∀ j, j < t → R.1 34 j = -1 ∨ rng (R.1 34 j) 0 d := by
    intro j hj
    obtain ⟨_, _, _, _, _, _, _, _, _, _, _, _, _, _, y⟩ := jT.1 j hj
    exact y
  have rr : ∀ o, o ≠ 0 → o ≠ 44 → R1.1 o = R.1 o := by
    intro o o1 o2
    have := k3 o o1 o2
    rw [if_neg o1] at this
    exact this
  have r0 : ∀ j, j ≠ 62 → R1.1 0 j = R.1 0 j := by
    intro j hj
    have := k4 j hj
    rw [if_neg hj] at this
    exact this
  obtain ⟨m0, a1, a2⟩ := allow_r (R := R1) (d := d) (t := t) (k := a) (W := W) (sh := sh) id2 ((r0 1 (by omega)).trans id1) ((r0 43 (by omega)).trans it1) it2 ha hW k5 (fun i hi => ⟨k6 i hi, by have := hsh i hi; omega⟩) (by rw [rr 33 (by omega) (by omega)]; exact hkn) (by rw [rr 34 (by omega) (by omega)]; exact hvo)
  obtain ⟨m1, b1, b2⟩ := allow_r (R := sI R1 45 0 (nI m0)) (d := d) (t := t) (k := b) (W := W) (sh := sh) id2 (by simp only [s1, s2, l1, l2, upd_at, Nat.reduceEqDiff, reduceIte]; exact (r0 1 (by omega)).trans id1) (by simp only [s1, s2, l1, l2, upd_at, Nat.reduceEqDiff, reduceIte]; exact (r0 43 (by omega)).trans it1) it2 hb hW (by simp only [s1, s2, l1, l2, upd_at, Nat.reduceEqDiff, reduceIte]; exact k5) (fun i hi => by simp only [s1, s2, l1, l2, upd_at, Nat.reduceEqDiff, reduceIte]; exact ⟨k6 i hi, by have := hsh i hi; omega⟩) (by simp only [s1, s2, l1, l2, upd_at, Nat.reduceEqDiff, reduceIte]; rw [rr 33 (by omega) (by omega)]; exact hkn) (by simp only [s1, s2, l1, l2, upd_at, Nat.reduceEqDiff, reduceIte]; rw [rr 34 (by omega) (by omega)]; exact hvo)
  simp only [s1, s2, l1, l2, upd_at, Nat.reduceEqDiff, reduceIte] at b2
  rw [rr 13 (by omega) (by omega), rr 28 (by omega) (by omega), rr 29 (by omega) (by omega), rr 34 (by omega) (by omega)] at a2 b2
  have hR3 : plR W px py sh (sI (sI R1 45 0 (nI m0)) 45 1 (nI m1)) := by
    unfold plR at *
    simp only [s1, s2, l1, l2, upd_at, Nat.reduceEqDiff, reduceIte]
    exact hR1
  obtain ⟨R4, c1, c2, c3⟩ := ways_all hR3
  have hL : ∀ x y, vl W x → vl W y → Lg px py x y ≤ 120 := fun x y hx hy => Lg_le hR3 hx hy
  obtain ⟨hV, h46⟩ := V_of hW c3
  obtain ⟨V, hVe⟩ : ∃ V : Nat → Nat → Nat, V = fun s l => nN (R4.1 46 (9 * s + l)) := ⟨_, rfl⟩
  have h46' : ∀ s, s < 2 ^ W → ∀ l, vl W l → R4.1 46 (9 * s + l) = nI (V s l) := by
    rw [hVe]
    exact h46
  rw [← hVe] at hV
  have cc : ∀ o, o ≠ 10 → o ≠ 61 → o ≠ 62 → o ≠ 63 → o ≠ 66 → o ≠ 67 → C1.1 o = C.1 o := by
    intro o o1 o2 o3 o4 o5 o6
    have := g3 o o1 o2 o3 o4 o5 o6
    rw [if_neg o1] at this
    exact this
  obtain ⟨ok, hok⟩ := exB (fun w => alP W (fun i => mgP (R.1 13) (R.1 28) (R.1 29) (R.1 34) t a (sh i)) (fun i => mgP (R.1 13) (R.1 28) (R.1 29) (R.1 34) t b (sh i)) (2 ^ W - 1 - w) ∧ loF W (tOf V) w ≤ z)
  obtain ⟨C2, d1, d2, d3⟩ := times_c hC1 hV hL
  have hC3 : plC W px py sh (sI C2 10 9 0) := plC_k hC1 ⟨by simp only [s1, s2, l1, l2, upd_at, Nat.reduceEqDiff, reduceIte]; rw [d2 10 (by omega) (by omega)], by simp only [s1, s2, l1, l2, upd_at, Nat.reduceEqDiff, reduceIte]; rw [d2 61 (by omega) (by omega)], by simp only [s1, s2, l1, l2, upd_at, Nat.reduceEqDiff, reduceIte]; rw [d2 62 (by omega) (by omega)], by simp only [s1, s2, l1, l2, upd_at, Nat.reduceEqDiff, reduceIte]; rw [d2 63 (by omega) (by omega)]⟩
  obtain ⟨C4, e1', e2', e3'⟩ := plan_c (C := sI C2 10 9 0) (z := z) (p := fun i => mgP (R.1 13) (R.1 28) (R.1 29) (R.1 34) t a (sh i)) (q := fun i => mgP (R.1 13) (R.1 28) (R.1 29) (R.1 34) t b (sh i)) (ok := ok) hC3 hV (by unfold cOk at *; simp only [s1, s2, l1, l2, upd_at, Nat.reduceEqDiff, reduceIte]; exact d3) (fun i hi => by
    simp only [s1, s2, l1, l2, upd_at, Nat.reduceEqDiff, reduceIte]
    rw [d2 66 (by omega) (by omega), d2 67 (by omega) (by omega)]
    exact (g7 i hi).2.2.2) z3 (fun w _ => hok w) (by simp only [s1, s2, l1, l2, upd_at, Nat.reduceEqDiff, reduceIte])
  have hR4 : plR W px py sh R4 := plR_k hR3 c2
  have hR5 : plR W px py sh (sI R4 0 65 (-1)) := by
    unfold plR at *
    simp only [s1, s2, l1, l2, upd_at, Nat.reduceEqDiff, reduceIte]
    exact hR4
  have w0 : ∀ j, j ≠ 62 → R4.1 0 j = R.1 0 j := by
    intro j hj
    rw [c2 0 (by omega)]
    simp only [s1, s2, l1, l2, upd_at, Nat.reduceEqDiff, reduceIte]
    exact r0 j hj
  have wr : ∀ o, o ≠ 0 → o ≠ 44 → o ≠ 45 → o ≠ 46 → R4.1 o = R.1 o := by
    intro o o1 o2 o3 o4
    rw [c2 o o4]
    simp only [s1, s2, l1, l2, upd_at, Nat.reduceEqDiff, reduceIte, o3]
    exact rr o o1 o2
  obtain ⟨R6, f1', f2', f3'⟩ := fw101 (R := sI R4 0 65 (-1)) (z := z) (p := fun i => mgP (R.1 13) (R.1 28) (R.1 29) (R.1 34) t a (sh i)) (q := fun i => mgP (R.1 13) (R.1 28) (R.1 29) (R.1 34) t b (sh i)) (ok := ok) (m0 := m0) (m1 := m1) hR5 hV (by simp only [s1, s2, l1, l2, upd_at, Nat.reduceEqDiff, reduceIte]; exact h46') z3 (by simp only [s1, s2, l1, l2, upd_at, Nat.reduceEqDiff, reduceIte]; exact (w0 60 (by omega)).trans z1) (by simp only [s1, s2, l1, l2, upd_at, Nat.reduceEqDiff, reduceIte]; rw [c2 45 (by omega)]; simp only [s1, s2, l1, l2, upd_at, Nat.reduceEqDiff, reduceIte]) (by simp only [s1, s2, l1, l2, upd_at, Nat.reduceEqDiff, reduceIte]; rw [c2 45 (by omega)]; simp only [s1, s2, l1, l2, upd_at, Nat.reduceEqDiff, reduceIte]) (fun i hi => ⟨a2 i hi, b2 i hi⟩) (fun w _ => hok w) (by simp only [s1, s2, l1, l2, upd_at, Nat.reduceEqDiff, reduceIte])
  refine ⟨C4, R6, W, px, py, sh, V, bst ok (loF W (tOf V)) (soF W (tOf V)) (2 ^ W), ?_, ?_, ⟨fun o ho => ?_, ?_, ?_⟩, ⟨fun o ho => ?_, fun j hj => ?_⟩, ?_⟩
  · unfold f_X11_planWork_88 f_X4_plan
    rw [d1, bv_, let_, all_c hC3, bi_, show mI C1 0 17 = nI z by unfold mI; rw [cc 0 (by omega) (by omega) (by omega) (by omega) (by omega) (by omega)]; exact bl.trans z1, e1', bv_]
  · unfold f_X12_findWork_68
    rw [a1, bi_, show mm_ck (0 : Int32) 2 _ = _ from ckI (j := 0) (by omega) (by omega), let_, show (0 : Int32).toNatClampNeg = 0 from clI (j := 0) (by omega), b1, bi_, show mm_ck (1 : Int32) 2 _ = _ from ckI (j := 1) (by omega) (by omega), let_, show (1 : Int32).toNatClampNeg = 1 from clI (j := 1) (by omega), c1, bv_, let_, f1']
  · have n10' : o ≠ 10 := neW ho rfl
    rw [e2'.1 o n10', s1, if_neg n10', d2 o (neW ho rfl) (neW ho rfl), cc o n10' (neW ho rfl) (neW ho rfl) (neW ho rfl) (neW ho rfl) (neW ho rfl)]
  · rw [e2'.1 62 (by omega), s1, if_neg (by omega), d2 62 (by omega) (by omega)]
    exact g5
  · rw [e2'.1 63 (by omega), s1, if_neg (by omega), d2 63 (by omega) (by omega)]
    exact g6
  · have q0 : o ≠ 0 := neR ho rfl
    rw [f2'.1 o q0, s1, if_neg q0, wr o q0 (neR ho rfl) (neR ho rfl) (neR ho rfl)]
  · have q65 : j ≠ 65 := neZ hj rfl
    rw [f2'.2 j q65 (neZ hj rfl) (neZ hj rfl), s1, if_pos rfl, upd_at, if_neg q65, w0 j (neZ hj rfl)]
  · refine ⟨plC_k hC3 ⟨e2'.2, e2'.1 61 (by omega), e2'.1 62 (by omega), e2'.1 63 (by omega)⟩, ?_, hV, hL, ?_, ?_, e3', f3', fun b hb => bst_lt hb⟩
    · unfold plR at *
      rw [f2'.1 44 (by omega), f2'.1 3 (by omega), f2'.1 4 (by omega), f2'.2 62 (by omega) (by omega) (by omega)]
      exact hR5
    · unfold cOk at *
      rw [e2'.1 64 (by omega), e2'.1 65 (by omega)]
      simp only [s1, s2, l1, l2, upd_at, Nat.reduceEqDiff, reduceIte]
      exact d3
    · rw [f2'.1 46 (by omega)]
      simp only [s1, s2, l1, l2, upd_at, Nat.reduceEqDiff, reduceIte]
      exact h46'

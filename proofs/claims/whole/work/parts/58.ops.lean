theorem cnt_0 {f : Nat → Int32} {m : Nat} (h : cnt f m = 0) : ∀ j, j < m → f j = 0 := by
  induction m with
  | zero => exact fun j hj => absurd hj (by omega)
  | succ m ih =>
    intro j hj
    by_cases e : f m = 0
    · rw [cnt_z e] at h
      by_cases ej : j = m
      · rw [ej]
        exact e
      · exact ih h j (by omega)
    · rw [cnt_nz e] at h
      omega
theorem cnt_fill (f : Nat → Int32) : cnt (fill f 0 40 0) 40 = 0 := by
  rw [cnt_eq (f := fill f 0 40 0) (g := fun _ => 0) (fun p hp => if_pos ⟨by omega, hp⟩)]
  decide +kernel
theorem dTk01 (ins su : Nat → Int32) (g : Nat → Nat) (r q u j : Nat) : dTk ins su g r q u j = 0 ∨ dTk ins su g r q u j = 1 := by
  unfold dTk
  split
  · split
    · exact Or.inr rfl
    · exact Or.inl rfl
  · exact Or.inr rfl
theorem dTk_in {ins su : Nat → Int32} {g : Nat → Nat} {r q u j : Nat} (hD : Drw ins su g r q) (hj : j < 40) (h : ¬ dTk ins su g r q u j = 0) : ¬ ins j = 0 := by
  intro h0
  apply h
  unfold dTk
  rw [if_pos ((hD.1 j hj).2.2.2.1 h0), if_neg (fun z => z.1 h0)]
theorem dTk_top {ins su : Nat → Int32} {g : Nat → Nat} {r q u j : Nat} (hD : Drw ins su g r q) (hj : j < 40) (h : ¬ dTk ins su g r q u j = 0) : 1 ≤ dT ins su g r j := by
  have hi := dTk_in hD hj h
  obtain ⟨d1, d2, d3, d4, d5⟩ := hD.1 j hj
  have i1 : ins j = 1 := d1.resolve_left hi
  unfold dT drTop
  rw [i1, nN1]
  rw [if_neg (by omega)]
  rcases d2 with e | e
  · rw [e, nN0, if_pos rfl]
    rcases Nat.eq_zero_or_pos (r * g j) with z | z
    · exfalso
      apply h
      unfold dTk
      rw [if_pos e, if_neg (fun y => by rw [dEnd_y ⟨hi, e⟩, z, Nat.mul_zero, Nat.add_zero] at y; omega)]
    · exact z
  · rw [e, nN1, if_neg (by omega)]
    omega
theorem dTk_some {ins su : Nat → Int32} {g : Nat → Nat} {r q u : Nat} (hD : Drw ins su g r q) (hu : u ≤ 999) (hi : ∃ j, j < 40 ∧ ¬ ins j = 0) : cnt (dTk ins su g r q u) 40 ≠ 0 := by
  intro h
  have hz := cnt_0 h
  have hs : ∀ j, j < 40 → su j = 0 := by
    intro j hj
    have := hz j hj
    unfold dTk at this
    by_cases e : su j = 0
    · exact e
    · rw [if_neg e] at this
      exact absurd this n10
  obtain ⟨j, hj, hj0⟩ := hi
  have hq := (hD.1 j hj).2.2.2.2 hj0 (hs j hj)
  have hr : 1 ≤ r := by
    rcases hD.2.2.2 with z | z
    · omega
    · exact z
  have hb : ∀ s, s ≤ 40 → bel (dEnd ins su g r s) (u * q) (1000 * q) = 0 := by
    intro s
    induction s with
    | zero =>
      intro _
      unfold bel dEnd
      rw [if_pos (by show 1000 * (r * 0) ≤ _; omega)]
    | succ s ih =>
      intro h1
      have k := ih (by omega)
      by_cases e : ins s = 0
      · rw [dEnd_n (fun z => z.1 e)]
        exact k
      · have := hz s (by omega)
        unfold dTk at this
        rw [if_pos (hs s (by omega))] at this
        by_cases y : ¬ ins s = 0 ∧ bel (dEnd ins su g r s) (u * q) (1000 * q) < bel (dEnd ins su g r (s + 1)) (u * q) (1000 * q)
        · rw [if_pos y] at this
          exact absurd this n10
        · rcases Nat.eq_zero_or_pos (bel (dEnd ins su g r (s + 1)) (u * q) (1000 * q)) with z | z
          · exact z
          · exact absurd ⟨e, by omega⟩ y
  have h40 := hb 40 (by omega)
  obtain ⟨b1, b2⟩ := bel_P (dEnd ins su g r 40) (u * q) (show 0 < 1000 * q by omega)
  rw [h40] at b1
  unfold dEnd at b1
  rw [← hD.2.2.1] at b1
  have e1 : u * q ≤ 999 * q := Nat.mul_le_mul_right q hu
  have e2 : 1 * q ≤ r * q := Nat.mul_le_mul_right q hr
  omega
theorem ok_draw (a b : Int32) : op_i Rel (f_X11_draw a b) (f_X12_draw a b) := by
  intro C R h
  unfold f_X12_draw
  rw [let_]
  have h := rel_t h 0
  generalize sI R 0 0 0 = R at h ⊢
  show ends _ _
  unfold f_X11_draw
  try unfold mI
  have h' := h
  obtain ⟨⟨⟨bd, bn, bt, bu, bv, bw, bl⟩, ⟨sa, sb, sc, sd, se, sf, sg, sh⟩, ⟨ka, kb, kc, kd, ke⟩, ⟨ta, tb, tc, td, te, tf, tg⟩, ⟨ra, rb, rc, rd, re_, rf⟩, ⟨qa, qb, qc, qd, qe⟩⟩, hr, hl, hw, d, n, t, u, v, w, ⟨⟨⟨id1, id2⟩, ⟨in1, in2⟩, ⟨it1, it2⟩, ⟨iu1, iu2⟩, ⟨iv1, iv2⟩, ⟨iw1, iw2⟩, ilv⟩, jS, jK, jT, jR, jC, jB, jM, jD, jL⟩, hrule, hhome⟩ := h'
  unfold f_X11_draw_46 f_X11_draw_26 f_X12_draw_48 f_X12_draw_28
  simp only [bi_id]
  have hn := bn.trans in1
  have hcn := cnt_le (R.1 6) n
  rw [openOnes_ok hn in2, openMany_ok in1 in2, bi_, bi_, sf]
  by_cases c0 : cnt (R.1 6) n = 0
  · rw [c0, if_pos (show nI 0 = 0 from rfl), if_pos (show nI 0 = 0 from rfl)]
    exact ref3 h
  · rw [if_neg (nI_ne0 (by omega) (by omega)), if_neg (nI_ne0 (by omega) (by omega))]
    by_cases a1 : a < 1
    · rw [if_pos a1, if_pos a1]
      exact ref4 h
    · rw [if_neg a1, if_neg a1]
      by_cases b1 : 0 ≤ b
      · rw [if_pos b1, if_pos b1]
        by_cases a2 : 40 < a
        · rw [if_pos a2, if_pos a2]
          exact ref6 h
        · rw [if_neg a2, if_neg a2]
          by_cases b2 : b ≤ 999
          · rw [if_pos b2, if_pos b2]
            have a3 : (1 : Int32) ≤ a := by
              rw [Int32.lt_iff_toInt_lt] at a1
              rw [Int32.le_iff_toInt_le]
              omega
            have a4 : a ≤ 40 := by
              rw [Int32.lt_iff_toInt_lt] at a2
              rw [Int32.le_iff_toInt_le]
              omega
            obtain ⟨u', rfl, e1, e2⟩ := num_of (lo := 0) (hi := 999) 0 999 rfl rfl (by omega) (by omega) b1 b2
            obtain ⟨m, rfl, f1, f2⟩ := num_of (lo := 1) (hi := 40) 1 40 rfl rfl (by omega) (by omega) a3 a4
            clear a1 a2 a3 a4 b1 b2
            have k3 := nolet_c 40 0 mm_fu C (by omega) (fuGt (by omega))
            unfold f_X11_takeLettersAway
            rw [show (0 : Int32) = nI 0 from rfl, k3, bv_]
            generalize hM : sI (sA C 16 (fill (C.1 16) 0 40 0)) 0 15 0 = M2
            have mc : ∀ z, z ≠ 0 → z ≠ 16 → M2.1 z = C.1 z := fun z z1 z2 => by rw [← hM]; simp only [s1, sA1, z1, z2, reduceIte]
            have mc0 : ∀ j, j ≠ 15 → M2.1 0 j = C.1 0 j := fun j j1 => by rw [← hM]; simp only [s1, sA1, upd_at, j1, reduceIte, Nat.reduceEqDiff]
            have mc15 : M2.1 0 15 = 0 := by rw [← hM]; simp only [s1, upd_at, reduceIte]
            have mc16 : M2.1 16 = fill (C.1 16) 0 40 0 := by rw [← hM]; simp only [s1, sA1, reduceIte, Nat.reduceEqDiff]
            obtain ⟨C1, R1, su, r, q, g1, g2, g3, g4, g5, g6, g7, g8, g9, g10, g11, g12⟩ := sure_ok6 (C := M2) (R := R) (n := n) (a := m) (op := R.1 6) (we := R.1 5) (by rw [mc 2 (by omega) (by omega)]; exact hn) (by rw [mc 31 (by omega) (by omega)]; exact sf) (by rw [mc 30 (by omega) (by omega)]; exact se) in1 rfl rfl in2 (fun j hj => (jS.1 j hj).2.2.2.2.2.1) (fun j hj => (jS.1 j hj).2.2.2.2.1) f2 f1
            rw [g1, g2, bv_, bv_, let_]
            have k4 := nolet_r 40 0 mm_fu (sI R1 0 17 1) (by omega) (fuGt (by omega))
            unfold f_X12_noLetters
            rw [show (0 : Int32) = nI 0 from rfl, k4, bv_]
            generalize hN : sA (sI R1 0 17 1) 47 (fill ((sI R1 0 17 1).1 47) 0 40 0) = R2
            have nc : ∀ z, z ≠ 0 → z ≠ 47 → R2.1 z = R1.1 z := fun z z1 z2 => by rw [← hN]; simp only [s1, sA1, z1, z2, reduceIte]
            have nc0 : ∀ j, j ≠ 17 → R2.1 0 j = R1.1 0 j := fun j j1 => by rw [← hN]; simp only [s1, sA1, upd_at, j1, reduceIte, Nat.reduceEqDiff]
            have nc17 : R2.1 0 17 = 1 := by rw [← hN]; simp only [s1, sA1, upd_at, reduceIte, Nat.reduceEqDiff]
            have nc47 : R2.1 47 = fill (R.1 47) 0 40 0 := by rw [← hN]; simp only [s1, sA1, reduceIte, Nat.reduceEqDiff]; rw [g11.1 47 (by omega) (by omega)]
            obtain ⟨C3, t1, t2, t3, t4, t5, t6⟩ := take6 (C := C1) g12 (fun i hi => (g3 i hi).2) rfl rfl g4 g5 g6 e2
            obtain ⟨R3, v1, v2, v3, v4, v5⟩ := drw77 (R := R2) (op := R.1 6) (wr := R.1 5) (sr := su) (n := n) (u := u') g12 in2 (fun j hj => (jS.1 j hj).2.2.2.2.2.1) (fun j hj => (g3 j hj).1) (fun j hj hj0 => by
              rw [(g3 j hj).1] at hj0
              unfold dIns at hj0
              by_cases z : j < n ∧ ¬ R.1 6 j = 0
              · unfold dWe
                rw [if_pos z]
                exact (rng_n (jS.1 j z.1).2.2.2.2.1 (by omega)).1
              · rw [if_neg z] at hj0
                exact absurd rfl hj0) (by rw [nc0 2 (by omega), g11.2 2 (by omega) (by omega)]; exact in1) (by rw [nc 6 (by omega) (by omega), g11.1 6 (by omega) (by omega)]) (by rw [nc 5 (by omega) (by omega), g11.1 5 (by omega) (by omega)]) (fun j hj => by rw [nc 18 (by omega) (by omega)]; exact g7 j hj) (by rw [nc0 23 (by omega)]; exact g8) (fun z => by rw [nc0 22 (by omega)]; exact g9 z) e2
            rw [t1, show (0 : Int64) = lN 0 from rfl, v1]
            refine ends_of ?_
            have kcx : ∀ z, z ≠ 0 → z ≠ 6 → z ≠ 16 → z ≠ 51 → z ≠ 52 → z ≠ 53 → z ≠ 54 → C3.1 z = C.1 z := fun z z0 z6 z16 z51 z52 z53 z54 => by rw [t5 z z6 z51, g10.1 z z6 z52 z53 z54, mc z z0 z16]
            have kc0 : ∀ j, j ≠ 15 → C3.1 0 j = C.1 0 j := fun j j1 => by rw [t5 0 (by omega) (by omega), g10.1 0 (by omega) (by omega) (by omega) (by omega), mc0 j j1]
            have kc15 : C3.1 0 15 = 0 := by rw [t5 0 (by omega) (by omega), g10.1 0 (by omega) (by omega) (by omega) (by omega), mc15]
            have kc16 : C3.1 16 = fill (C.1 16) 0 40 0 := by rw [t5 16 (by omega) (by omega), g10.1 16 (by omega) (by omega) (by omega) (by omega), mc16]
            have kr : ∀ z, z ≠ 0 → z ≠ 15 → z ≠ 16 → z ≠ 17 → z ≠ 18 → z ≠ 47 → R3.1 z = R.1 z := fun z z0 z15 z16 z17 z18 z47 => by rw [v5 z z15 z16 z17, nc z z0 z47, g11.1 z z0 z18]
            have kr0 : ∀ j, j ≠ 17 → j ≠ 22 → j ≠ 23 → R3.1 0 j = R.1 0 j := fun j j1 j2 j3 => by rw [v5 0 (by omega) (by omega) (by omega), nc0 j j1, g11.2 j j2 j3]
            have kr17 : R3.1 0 17 = 1 := by rw [v5 0 (by omega) (by omega) (by omega), nc17]
            have kr47 : R3.1 47 = fill (R.1 47) 0 40 0 := by rw [v5 47 (by omega) (by omega) (by omega), nc47]
            have kc52 : C3.1 52 = C1.1 52 := t5 52 (by omega) (by omega)
            have kc53 : C3.1 53 = su := (t5 53 (by omega) (by omega)).trans g4
            have kc54 : C3.1 54 = C1.1 54 := t5 54 (by omega) (by omega)
            have kcn : cnt (R3.1 15) 40 = cnt (dTk (C1.1 52) su (dWe n (R.1 6) (R.1 5)) r q u') 40 := cnt_eq v2
            have hsome : cnt (dTk (C1.1 52) su (dWe n (R.1 6) (R.1 5)) r q u') 40 ≠ 0 := by
              refine dTk_some g12 e2 ?_
              by_cases z : ∃ j, j < 40 ∧ ¬ (C1.1 52) j = 0
              · exact z
              · exfalso
                apply c0
                have : ∀ m, m ≤ n → cnt (R.1 6) m = 0 := by
                  intro m
                  induction m with
                  | zero => exact fun _ => rfl
                  | succ m ih =>
                    intro hm
                    by_cases e : R.1 6 m = 0
                    · rw [cnt_z e]
                      exact ih (by omega)
                    · exact absurd ⟨m, by omega, by rw [(g3 m (by omega)).1]; unfold dIns; rw [if_pos ⟨by omega, e⟩]; exact n10⟩ z
                exact this n (Nat.le_refl _)
            have hct := cnt_le (dTk (C1.1 52) su (dWe n (R.1 6) (R.1 5)) r q u') 40
            unfold Rel rBase Inv iScal
            simp (disch := omega) only [kcx, kc0, kc15, kc16, kr, kr0, kr17, kr47]
            refine ⟨⟨⟨bd, bn, bt, bu, bv, bw, bl⟩, ⟨sa, sb, sc, sd, se, sf, sg, sh⟩, ⟨ka, kb, kc, kd, ke⟩, ⟨ta, tb, tc, td, te, tf, tg⟩, ⟨ra, rb, rc, rd, by rw [re_], ?_⟩, ⟨qa, qb, qc, qd, qe⟩⟩, hr, ?_, ?_, d, n, t, u, v, w, ⟨⟨⟨id1, id2⟩, ⟨in1, in2⟩, ⟨it1, it2⟩, ⟨iu1, iu2⟩, ⟨iv1, iv2⟩, ⟨iw1, iw2⟩, ilv⟩, jS, jK, jT, jR, jC, jB, jM, ?_, ?_⟩, ⟨?_, hrule.2⟩, hhome⟩
            · funext j
              by_cases hj : j < 40
              · rw [t2 j hj, v2 j hj]
              · rw [t3 j (by omega), v3 j (by omega), g10.1 51 (by omega) (by omega) (by omega) (by omega), mc 51 (by omega) (by omega), rf, nc 15 (by omega) (by omega), g11.1 15 (by omega) (by omega)]
            · unfold rLet
              rw [cnt_fill]
              rfl
            · unfold rDraw
              rw [kcn, t4, kc52, kc53, kc54, t6 4 (by omega), t6 5 (by omega)]
              refine ⟨rfl, Or.inr ⟨nI_ne0 (by omega) (by omega), n10, r, q, g5, g6, g12.2.1, drw_q g12, fun j hj => ?_⟩⟩
              obtain ⟨d1, d2, d3, d4, d5⟩ := g12.1 j hj
              refine ⟨nN (C1.1 52 j), nN (su j), dWe n (R.1 6) (R.1 5) j, ?_, ?_, ?_, ?_, (g3 j hj).2, d3, ?_, (v4 j hj).1, (v4 j hj).2, fun z => dTk_top g12 hj (by rw [← v2 j hj]; exact z)⟩
              · rcases d1 with z | z <;> rw [z] <;> rfl
              · rcases d1 with z | z <;> rw [z] <;> decide +kernel
              · rcases d2 with z | z <;> rw [z] <;> rfl
              · rcases d2 with z | z <;> rw [z] <;> decide +kernel
              · unfold drBel
                rcases d1 with z | z
                · rw [z, nN0, if_pos rfl]
                  omega
                · rw [z, nN1, if_neg (by omega)]
                  rcases d2 with y | y
                  · rw [y, nN0, if_pos rfl]
                    have := d5 (by rw [z]; exact n10) y
                    omega
                  · rw [y, nN1, if_neg (by omega)]
                    omega
            · intro s hs
              rw [v2 s hs]
              exact of01 (dTk01 _ _ _ _ _ _ _)
            · intro s hs
              exact ⟨0, if_pos ⟨by omega, hs⟩, by omega, by omega⟩
            · intro j h1 h2
              rw [v2 j h2]
              by_cases z : dTk (C1.1 52) su (dWe n (R.1 6) (R.1 5)) r q u' j = 0
              · exact z
              · exact absurd (by rw [(g3 j h2).1]; exact if_neg (by omega)) (dTk_in g12 h2 z)
          · rw [if_neg b2, if_neg b2]
            exact ref6 h
      · rw [if_neg b1, if_neg b1]
        exact ref4 h

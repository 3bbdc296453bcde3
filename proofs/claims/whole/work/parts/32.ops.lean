/-! the plain calls, one by one -/
theorem ok_days (a : Int32) : op_i Rel (f_X11_days a) (f_X12_days a) := by
  intro C R h
  unfold f_X12_days
  rw [let_]
  have h := rel_t h 0
  generalize sI R 0 0 0 = R at h ⊢
  show ends _ _
  unfold f_X11_days mI
  have h' := h
  obtain ⟨⟨⟨b1, b2⟩, b3⟩, h2, h3, h4, d, n, t, u, v, w, ⟨⟨⟨i1, i2⟩, i3⟩, i4, i5, i6, i7⟩, i8⟩ := h
  rw [b1, i1]
  by_cases c1 : 1 ≤ a
  · rw [if_pos c1, if_pos c1]
    by_cases c2 : a ≤ 2000 - nI d
    · rw [if_pos c2, if_pos c2, let_, let_]
      have hd : ∃ e, a = nI e ∧ d + e ≤ 2000 := by
        obtain ⟨e, he, rfl⟩ := nI_of (x := a) (by rw [Int32.lt_iff_toInt_lt]; rw [Int32.le_iff_toInt_le] at c1; have : (1 : Int32).toInt = 1 := rfl; have : (0 : Int32).toInt = 0 := rfl; omega)
        refine ⟨e, rfl, ?_⟩
        rw [Int32.le_iff_toInt_le, show (2000 - nI d : Int32).toInt = ((2000 : Nat) : Int) - d from pk_sub_toInt (a := 2000) (by omega) (by omega), nI_toInt he] at c2
        omega
      obtain ⟨e, rfl, he⟩ := hd
      rw [nI_add]
      have q1 : (sI C 0 16 (nI (d + e))).1 0 16 = nI (d + e) := by simp only [s1, upd_at, reduceIte]
      have q2 : (sI R 0 1 (nI (d + e))).1 0 1 = nI (d + e) := by simp only [s1, upd_at, reduceIte]
      rw [q1, q2]
      refine ends_of ?_
      have mo : ∀ {x : Int32} {lo : Nat}, rng x lo d → rng x lo (d + e) := fun ⟨k, q, q1, q2⟩ => ⟨k, q, q1, by omega⟩
      unfold Rel rBase Inv iScal at *
      simp only [s1, s2, l1, l2, upd_at, Nat.reduceEqDiff, reduceIte] at *
      refine ⟨⟨⟨trivial, b2⟩, b3⟩, h2, h3, h4, d + e, n, t, u, v, w, ⟨⟨⟨rfl, he⟩, i3⟩, ?_, i5, ?_, i7⟩, i8⟩
      · refine ⟨fun j hj => ?_, i4.2⟩
        obtain ⟨p1, p2, p3, p4, p5, p6, o, p7, p8, p9, e0, p11, p10⟩ := i4.1 j hj
        exact ⟨p1, p2, p3, p4, p5, p6, o, p7, p8, p9, e0, p11, fun k hk => mo (p10 k hk)⟩
      · refine ⟨fun k hk => ?_, i6.2⟩
        obtain ⟨s, c, f, p1, p2, p3, p4, p5, p6, p7, p8, p9, p10, p11, p12⟩ := i6.1 k hk
        exact ⟨s, c, f, p1, p2, p3, p4, p5, p6, by omega, p8, p9, p10, mo p11, p12.imp id mo⟩
    · rw [if_neg c2, if_neg c2, bi_id, bi_id]
      exact ref6 h'
  · rw [if_neg c1, if_neg c1, bi_id, bi_id]
    exact ref4 h'
theorem ok_weight (a b : Int32) : op_i Rel (f_X11_weight a b) (f_X12_weight a b) := by
  intro C R h
  unfold f_X12_weight
  rw [let_]
  have h := rel_t h 0
  generalize sI R 0 0 0 = R at h ⊢
  show ends _ _
  unfold f_X11_weight mI
  have h' := h
  obtain ⟨⟨⟨b1, b2, b3⟩, ⟨c1, c2, c3, c4, c5, c6⟩, b4⟩, h2, h3, h4, d, n, t, u, v, w, ⟨⟨i1, ⟨i2, i2'⟩, i3⟩, i4, i5⟩, i8⟩ := h
  have k2 := b2.trans i2
  rcases ix_of a (n := n) (by omega) with ⟨j, hj, rfl⟩ | ha
  · rw [has_y k2 i2' hj, isShop_y i2 i2' hj, bi_, bi_]
    simp only [z01, reduceIte]
    rcases out_of (a := b) (lo := 1) (hi := 20) C with ⟨q1, q2, q3⟩ | ⟨q1, q2, q3⟩ | ⟨q1, q3⟩
    · rw [q3, bi_, if_pos rfl, if_pos q1, if_pos q2]
      simp only [ckI (show j < 40 by omega) (show 40 ≤ 100000 by omega), let_, clI (show j < 2 ^ 31 by omega), c5]
      refine ends_of ?_
      have hb : rng b 1 20 := by
        obtain ⟨e, he, rfl⟩ := nI_of (x := b) (by rw [Int32.lt_iff_toInt_lt]; rw [Int32.le_iff_toInt_le] at q1; have : (1 : Int32).toInt = 1 := rfl; have : (0 : Int32).toInt = 0 := rfl; omega)
        exact ⟨e, rfl, (nI_leI (a := 1) (by omega) he).mp q1, (nI_leI (b := 20) he (by omega)).mp q2⟩
      unfold Rel rBase Inv iScal at *
      simp only [s1, s2, l1, l2, upd_at, Nat.reduceEqDiff, reduceIte] at *
      refine ⟨⟨⟨b1, b2, b3⟩, ⟨c1, c2, c3, c4, by rw [c5], c6⟩, b4⟩, h2, h3, h4, d, n, t, u, v, w, ⟨⟨i1, ⟨i2, i2'⟩, i3⟩, ?_, i5⟩, i8⟩
      refine ⟨fun k hk => ?_, i4.2⟩
      obtain ⟨p1, p2, p3, p4, p5, p6⟩ := i4.1 k hk
      refine ⟨p1, p2, p3, p4, ?_, p6⟩
      unfold upd
      split
      · exact hb
      · exact p5
    · rw [q3, bi_, if_neg (by rw [z6]; exact id), if_pos q1, if_neg q2, bi_id, bi_id]
      exact ref6 h'
    · rw [q3, bi_, if_neg (by rw [z4]; exact id), if_neg q1, bi_id, bi_id]
      exact ref4 h'
  · rw [has_n k2 ha, isShop_n i2 i2' ha, bi_, bi_, if_pos rfl, if_pos rfl, bi_id, bi_id]
    exact ref1 h'

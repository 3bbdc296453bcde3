theorem sim_mmax {α : Type} {S : mm_S} {Y : mm_Y} {d pc pc' idx : Nat} {L : mm_L} {st : List Value} {M : mm_M} {fin : α → Option Value × mm_M} {X : Option α} {x y : Int32} (hd : mm_d Y pc (.invokestatic idx) 3 pc') (hl : Cond.methodLink Y.1.cls idx Lib.Math.max.name ∈ mm_T) (h2 : Cond.static Lib.Math.max.name ∈ mm_T) (h3 : Cond.initialized "java/lang/Math" ∈ mm_T) (h4 : Cond.code Lib.Math.max.name Lib.Math.max.code 2 (some .int) ∈ mm_T) (h1 : 1 ≤ d) (hst : (st.map fun v => v.category).sum ≤ 8)
    (h : Sim S Y d pc' L (.int (if x < y then y else x) :: st) M fin X) : Sim S Y d pc L (.int y :: .int x :: st) M fin X := by
  obtain ⟨hd, rfl⟩ := hd
  intro res hr p l e s m args below meth c D cA ad hc H locs ls hP hS hl'
  have hts := hc.2.2.2.2.2.2.1
  exact va_mmax hc.1 hc.2.1 (hc.2.2.1.trans hl'.1.symm) hc.2.2.2.2.2.1 (hts _ hl) (hts _ h2) (hts _ h3) (hts _ h4) h1 (by have e := mm_cat_sum (ad := ad) (st := st); unfold mm_cS at e; rw [e]; show _ ≤ 64 * d; omega) (Nat.le_refl _) (Nat.le_refl _) hd (h res hr p l e s m args below meth c D cA ad hc H locs ls hP hS hl')
theorem sim_mmin {α : Type} {S : mm_S} {Y : mm_Y} {d pc pc' idx : Nat} {L : mm_L} {st : List Value} {M : mm_M} {fin : α → Option Value × mm_M} {X : Option α} {x y : Int32} (hd : mm_d Y pc (.invokestatic idx) 3 pc') (hl : Cond.methodLink Y.1.cls idx Lib.Math.min.name ∈ mm_T) (h2 : Cond.static Lib.Math.min.name ∈ mm_T) (h3 : Cond.initialized "java/lang/Math" ∈ mm_T) (h4 : Cond.code Lib.Math.min.name Lib.Math.min.code 2 (some .int) ∈ mm_T) (h1 : 1 ≤ d) (hst : (st.map fun v => v.category).sum ≤ 8)
    (h : Sim S Y d pc' L (.int (if y < x then y else x) :: st) M fin X) : Sim S Y d pc L (.int y :: .int x :: st) M fin X := by
  obtain ⟨hd, rfl⟩ := hd
  intro res hr p l e s m args below meth c D cA ad hc H locs ls hP hS hl'
  have hts := hc.2.2.2.2.2.2.1
  exact va_mmin hc.1 hc.2.1 (hc.2.2.1.trans hl'.1.symm) hc.2.2.2.2.2.1 (hts _ hl) (hts _ h2) (hts _ h3) (hts _ h4) h1 (by have e := mm_cat_sum (ad := ad) (st := st); unfold mm_cS at e; rw [e]; show _ ≤ 64 * d; omega) (Nat.le_refl _) (Nat.le_refl _) hd (h res hr p l e s m args below meth c D cA ad hc H locs ls hP hS hl')
theorem sim_mabs {α : Type} {S : mm_S} {Y : mm_Y} {d pc pc' idx : Nat} {L : mm_L} {st : List Value} {M : mm_M} {fin : α → Option Value × mm_M} {X : Option α} {x : Int32} (hd : mm_d Y pc (.invokestatic idx) 3 pc') (hl : Cond.methodLink Y.1.cls idx Lib.Math.abs.name ∈ mm_T) (h2 : Cond.static Lib.Math.abs.name ∈ mm_T) (h3 : Cond.initialized "java/lang/Math" ∈ mm_T) (h4 : Cond.code Lib.Math.abs.name Lib.Math.abs.code 1 (some .int) ∈ mm_T) (h1 : 1 ≤ d) (hst : (st.map fun v => v.category).sum ≤ 8)
    (h : Sim S Y d pc' L (.int (if 0 ≤ x then x else 0 - x) :: st) M fin X) : Sim S Y d pc L (.int x :: st) M fin X := by
  obtain ⟨hd, rfl⟩ := hd
  intro res hr p l e s m args below meth c D cA ad hc H locs ls hP hS hl'
  have hts := hc.2.2.2.2.2.2.1
  exact va_mabs hc.1 hc.2.1 (hc.2.2.1.trans hl'.1.symm) hc.2.2.2.2.2.1 (hts _ hl) (hts _ h2) (hts _ h3) (hts _ h4) h1 (by have e := mm_cat_sum (ad := ad) (st := st); unfold mm_cS at e; rw [e]; show _ ≤ 64 * d; omega) (Nat.le_refl _) (Nat.le_refl _) hd (h res hr p l e s m args below meth c D cA ad hc H locs ls hP hS hl')

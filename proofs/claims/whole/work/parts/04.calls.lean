theorem mm_goodIn {Z : mm_Y} (h : Cond.code Z.1 Z.2.1 Z.2.2.1 Z.2.2.2 ∈ mm_T) : GoodIn mm_T (mm_ws Z) := by
  intro w hw
  have hm : w ∈ mm_T := by
    rcases List.mem_cons.mp hw with rfl | hw
    · exact h
    · exact hw
  exact ⟨hm, good_of_word ((List.mem_filter.mp hm).2)⟩
/-- what a call asks of the method that is called -/
def mm_cz (Z : mm_Y) (n : Nat) : Prop := Cond.initialized Z.1.cls ∈ mm_T ∧ Cond.code Z.1 Z.2.1 Z.2.2.1 Z.2.2.2 ∈ mm_T ∧ (Z.1.cls ≠ "java/lang/invoke/MethodHandle" ∧ Z.1.cls ≠ "java/lang/invoke/VarHandle" ∧ (parseMethodDescriptor Z.1.desc).map (fun d => d.parameters.length) = some n) ∧ Z.2.2.1 ≤ 45
def mm_cv (Z : mm_Y) (ci n : Nat) : Prop := mm_cz Z n ∧ Cond.instanceMethod Z.1 ∈ mm_T ∧ Cond.selects Z.1.cls Z.1 Z.1 ∈ mm_T ∧ ∃ (T : u_T) (N : Nat), mm_cl[ci]? = some (Z.1.cls, T, N)
def mm_cs (Z : mm_Y) (n : Nat) : Prop := mm_cz Z n ∧ Cond.static Z.1 ∈ mm_T
theorem mm_cat_sum {ad : Nat → Nat} {st : List Value} : ((mm_cS ad st).map fun v => v.category).sum = (st.map fun v => v.category).sum := by
  unfold mm_cS
  rw [List.map_map]
  congr 1
  apply List.map_congr_left
  intro v _
  exact mm_cat ad v
theorem mm_S_after {A : Nat → Prop} {H0 H H1 : Heap} {locs L : List Loc} (hS : va_S A H0 H locs) (hz : H.size ≤ H1.size) (hk : ∀ q : Nat, q < H.size → ¬ A q → H1[q]? = H[q]?) (hL : ∀ q ∈ L, A q.base) : va_S A H0 H1 (locs ++ L) :=
  ⟨Nat.le_trans hS.1 hz, fun q h1 h2 => by rw [hk q (Nat.lt_of_lt_of_le h1 hS.1) h2]; exact hS.2.1 q h1 h2, fun q hq => by
    rcases List.mem_append.mp hq with h | h
    · exact hS.2.2 q h
    · exact hL q h⟩
section CALL
variable {S : mm_S} {Y Z : mm_Y} {d d' pc pc' idx n : Nat} {L : mm_L} {st as : List Value} {M : mm_M}
theorem g_callV {o ci : Nat} {fs : List (Nat × Nat)} {r q : Option Value × mm_M} (hd : mm_d Y pc (.invokevirtual idx) 3 pc') (hl : Cond.methodLink Y.1.cls idx Z.1 ∈ mm_T) (hz : mm_cv Z ci n) (ho : mm_ob S o ci fs) (hn : as.length = n) (hdd : d' + 1 ≤ d) (hst : (st.map fun v => v.category).sum ≤ 8)
    (hM : ∀ (l : Launch) (D : va_G) (cA : Nat → ClassId) (ad : Nat → Nat), mm_inj S ad → Met l Z.1 (mm_ws Z) (mm_room d') (va_Pc (mm_cS ad (.ref o :: as)) (fun U => va_P D mm_cl (mm_W S cA ad M) U.heap ∧ va_K D mm_cl (mm_tys cA) U ∧ mm_nw U)) (mm_Q S D cA ad q) 0 0 (mm_A S ad))
    (h : mm_G S Y d r pc' L (q.1.toList ++ st) q.2) : mm_G S Y d r pc L (as.reverse ++ .ref o :: st) M := by
  obtain ⟨hd, rfl⟩ := hd
  obtain ⟨⟨hz1, hz2, hz3, hz4⟩, hz5, hz6, T, N, hz7⟩ := hz
  intro p l e s m args below meth c D cA ad hc H locs ls hP hS hl2
  have hts := hc.2.2.2.2.2.2.1
  have hK := hc.2.2.2.2.2.2.2.1
  have he : (mm_W S cA ad M)[o]? = some (ad o, .inr (ci, mm_fs ad M o fs)) := by
    rw [mm_W_at ho.1]
    unfold mm_cell
    rw [ho.2]
  have cb : CallB (mm_room d) s args Y.1.cls idx Z.1 Z.2.1 Z.2.2.1 Z.2.2.2 (mm_ws Z) (mm_room d') 0 0 n :=
    callB_of n hts (mm_goodIn hz2) rfl rfl rfl (hts _ hz1) (hts _ hl) hz3 ⟨hdd, by show 8 + (Z.2.2.1 + 11) + 64 * d' ≤ 64 * d; omega⟩
  have run := va_runV (p := p) (l := l) (e := e) (R := mm_room d) (s := s) (m := m) (args := args) (below := below) (meth := meth) (c := c) (H := H) (locs := locs) (cells := 0) (slots := 0) (g := F0 m pc ls (mm_cS ad (as.reverse ++ .ref o :: st))) (rest := mm_cS ad st) (As := mm_cS ad as) (b := ad o) (C := Z.1.cls) (own := Y.1.cls) (Ts := mm_T) (cc := Y.2.1) (nL := Y.2.2.1)
    ⟨hc.1, hc.2.1, hc.2.2.1, hc.2.2.2.2.2.1, hts⟩ (hM l D cA ad hc.2.2.2.2.2.2.2.2.1) ⟨cb, hts _ hz5, hts _ hz6⟩
    ⟨fun a U g mk q => ⟨q.1, q.2.1, va_K.moved (u := U) (U := U.calling g mk a) (Vm.Alike.refl U.vm) q.2.2.1, va_Nw.same rfl rfl q.2.2.2⟩, va_recv hK hP hz7 he, fun U hU hW => ⟨rfl, by rw [hU]; exact hP, va_K.moved hW.alike hK, va_Nw.warmM hW hc.2.2.2.2.2.2.2.2.2⟩⟩
    rfl (by rw [← hn]; simp [mm_cS]) hl2.1 (by simp [mm_cS, mm_conc]) (lv_room (by rw [mm_cat_sum]; exact hst)) hd ⟨Nat.le_refl _, Nat.le_refl _⟩
  intro T hT X
  obtain ⟨v, st₀, t, T', Lc, h0, X', hLc, e1, e2, ⟨hv, hPt, hF⟩, go⟩ := run T hT X
  have hv : v = q.1.map (mm_conc ad) := Outcome.returned.inj hv
  subst hv
  rw [← e1] at hPt
  have hF1 := hF.1
  have hF2 := hF.2
  rw [h0] at hF1 hF2
  rw [← e1] at hF1 hF2
  obtain ⟨t2, a1, b1⟩ := h p l e s m args below meth c D cA ad hc T'.heap (locs ++ Lc) ls hPt (mm_S_after hS hF1 hF2 hLc) hl2 T' rfl X'
  refine ⟨t2, go t2 ?_, b1⟩
  have es : mm_cS ad (q.1.toList ++ st) = (q.1.map (mm_conc ad)).toList ++ mm_cS ad st := by
    cases q.1 <;> simp [mm_cS]
  rw [es] at a1
  exact a1
theorem g_callS {r q : Option Value × mm_M} (hd : mm_d Y pc (.invokestatic idx) 3 pc') (hl : Cond.methodLink Y.1.cls idx Z.1 ∈ mm_T) (hz : mm_cs Z n) (hn : as.length = n) (hdd : d' + 1 ≤ d) (hst : (st.map fun v => v.category).sum ≤ 8)
    (hM : ∀ (l : Launch) (D : va_G) (cA : Nat → ClassId) (ad : Nat → Nat), mm_inj S ad → Met l Z.1 (mm_ws Z) (mm_room d') (va_Pc (mm_cS ad as) (fun U => va_P D mm_cl (mm_W S cA ad M) U.heap ∧ va_K D mm_cl (mm_tys cA) U ∧ mm_nw U)) (mm_Q S D cA ad q) 0 0 (mm_A S ad))
    (h : mm_G S Y d r pc' L (q.1.toList ++ st) q.2) : mm_G S Y d r pc L (as.reverse ++ st) M := by
  obtain ⟨hd, rfl⟩ := hd
  obtain ⟨⟨hz1, hz2, hz3, hz4⟩, hz5⟩ := hz
  intro p l e s m args below meth c D cA ad hc H locs ls hP hS hl2
  have hts := hc.2.2.2.2.2.2.1
  have hK := hc.2.2.2.2.2.2.2.1
  have cb : CallB (mm_room d) s args Y.1.cls idx Z.1 Z.2.1 Z.2.2.1 Z.2.2.2 (mm_ws Z) (mm_room d') 0 0 n :=
    callB_of n hts (mm_goodIn hz2) rfl rfl rfl (hts _ hz1) (hts _ hl) hz3 ⟨hdd, by show 8 + (Z.2.2.1 + 11) + 64 * d' ≤ 64 * d; omega⟩
  have run := va_runS (p := p) (l := l) (e := e) (R := mm_room d) (s := s) (m := m) (args := args) (below := below) (meth := meth) (c := c) (H := H) (locs := locs) (cells := 0) (slots := 0) (g := F0 m pc ls (mm_cS ad (as.reverse ++ st))) (rest := mm_cS ad st) (As := mm_cS ad as) (own := Y.1.cls) (Ts := mm_T) (cc := Y.2.1) (nL := Y.2.2.1)
    ⟨hc.1, hc.2.1, hc.2.2.1, hc.2.2.2.2.2.1, hts⟩ (hM l D cA ad hc.2.2.2.2.2.2.2.2.1) ⟨cb, hts _ hz5⟩
    ⟨fun a U g mk q => ⟨q.1, q.2.1, va_K.moved (u := U) (U := U.calling g mk a) (Vm.Alike.refl U.vm) q.2.2.1, va_Nw.same rfl rfl q.2.2.2⟩, fun U hU hW => ⟨rfl, by rw [hU]; exact hP, va_K.moved hW.alike hK, va_Nw.warmM hW hc.2.2.2.2.2.2.2.2.2⟩⟩
    rfl (by rw [← hn]; simp [mm_cS]) hl2.1 (by simp [mm_cS]) (lv_room (by rw [mm_cat_sum]; exact hst)) hd ⟨Nat.le_refl _, Nat.le_refl _⟩
  intro T hT X
  obtain ⟨v, st₀, t, T', Lc, h0, X', hLc, e1, e2, ⟨hv, hPt, hF⟩, go⟩ := run T hT X
  have hv : v = q.1.map (mm_conc ad) := Outcome.returned.inj hv
  subst hv
  rw [← e1] at hPt
  have hF1 := hF.1
  have hF2 := hF.2
  rw [h0] at hF1 hF2
  rw [← e1] at hF1 hF2
  obtain ⟨t2, a1, b1⟩ := h p l e s m args below meth c D cA ad hc T'.heap (locs ++ Lc) ls hPt (mm_S_after hS hF1 hF2 hLc) hl2 T' rfl X'
  refine ⟨t2, go t2 ?_, b1⟩
  have es : mm_cS ad (q.1.toList ++ st) = (q.1.map (mm_conc ad)).toList ++ mm_cS ad st := by
    cases q.1 <;> simp [mm_cS]
  rw [es] at a1
  exact a1
/-- a static method of the nest's host -/
theorem g_callSN {r q : Option Value × mm_M} (hd : mm_d Y pc (.invokestatic idx) 3 pc') (hl : Cond.methodLinkNest Y.1.cls idx Z.1 "YoungBuyers" = Cond.methodLinkNest RX8 63 yX11_isFact "YoungBuyers") (hz : mm_cs Z n) (hn : as.length = n) (hdd : d' + 1 ≤ d) (hst : (st.map fun v => v.category).sum ≤ 8)
    (hM : ∀ (l : Launch) (D : va_G) (cA : Nat → ClassId) (ad : Nat → Nat), mm_inj S ad → Met l Z.1 (mm_ws Z) (mm_room d') (va_Pc (mm_cS ad as) (fun U => va_P D mm_cl (mm_W S cA ad M) U.heap ∧ va_K D mm_cl (mm_tys cA) U ∧ mm_nw U)) (mm_Q S D cA ad q) 0 0 (mm_A S ad))
    (h : mm_G S Y d r pc' L (q.1.toList ++ st) q.2) : mm_G S Y d r pc L (as.reverse ++ st) M := by
  obtain ⟨hd, rfl⟩ := hd
  obtain ⟨⟨hz1, hz2, hz3, hz4⟩, hz5⟩ := hz
  intro p l e s m args below meth c D cA ad hc H locs ls hP hS hl2
  have hts := hc.2.2.2.2.2.2.1
  have hK := hc.2.2.2.2.2.2.2.1
  have cb : va_CN (mm_room d) s args Y.1.cls idx Z.1 "YoungBuyers" Z.2.1 Z.2.2.1 Z.2.2.2 (mm_ws Z) (mm_room d') 0 0 n :=
    va_cnB n hts (mm_goodIn hz2) rfl rfl rfl (by rw [hl]; exact hc.2.2.2.2.2.2.2.2.2) (hts _ hz1) hz3 ⟨hdd, by show 8 + (Z.2.2.1 + 11) + 64 * d' ≤ 64 * d; omega⟩
  have run := va_runSN (p := p) (l := l) (e := e) (R := mm_room d) (s := s) (m := m) (args := args) (below := below) (meth := meth) (c := c) (H := H) (locs := locs) (cells := 0) (slots := 0) (g := F0 m pc ls (mm_cS ad (as.reverse ++ st))) (rest := mm_cS ad st) (As := mm_cS ad as) (own := Y.1.cls) (Ts := mm_T) (cc := Y.2.1) (nL := Y.2.2.1)
    ⟨hc.1, hc.2.1, hc.2.2.1, hc.2.2.2.2.2.1, hts⟩ (hM l D cA ad hc.2.2.2.2.2.2.2.2.1) ⟨cb, hts _ hz5, trivial⟩
    ⟨fun a U g mk q => ⟨q.1, q.2.1, va_K.moved (u := U) (U := U.calling g mk a) (Vm.Alike.refl U.vm) q.2.2.1, va_Nw.same rfl rfl q.2.2.2⟩, fun U hU hW => ⟨rfl, by rw [hU]; exact hP, va_K.moved hW.alike hK, va_Nw.warmM hW hc.2.2.2.2.2.2.2.2.2⟩⟩
    rfl (by rw [← hn]; simp [mm_cS]) hl2.1 (by simp [mm_cS]) (lv_room (by rw [mm_cat_sum]; exact hst)) hd ⟨Nat.le_refl _, Nat.le_refl _⟩
  intro T hT X
  obtain ⟨v, st₀, t, T', Lc, h0, X', hLc, e1, e2, ⟨hv, hPt, hF⟩, go⟩ := run T hT X
  have hv : v = q.1.map (mm_conc ad) := Outcome.returned.inj hv
  subst hv
  rw [← e1] at hPt
  have hF1 := hF.1
  have hF2 := hF.2
  rw [h0] at hF1 hF2
  rw [← e1] at hF1 hF2
  obtain ⟨t2, a1, b1⟩ := h p l e s m args below meth c D cA ad hc T'.heap (locs ++ Lc) ls hPt (mm_S_after hS hF1 hF2 hLc) hl2 T' rfl X'
  refine ⟨t2, go t2 ?_, b1⟩
  have es : mm_cS ad (q.1.toList ++ st) = (q.1.map (mm_conc ad)).toList ++ mm_cS ad st := by
    cases q.1 <;> simp [mm_cS]
  rw [es] at a1
  exact a1
end CALL
section CALLS
variable {α : Type} {S : mm_S} {Y : mm_Y} {d pc pc' idx n o ci : Nat} {fs : List (Nat × Nat)} {L : mm_L} {M : mm_M} {fin : α → Option Value × mm_M}
theorem sim_callVi (Z : mm_Y) (d' : Nat) (as st : List Value) {F : Option (Int32 × mm_M)} {k : Int32 → mm_M → Option α} (hd : mm_d Y pc (.invokevirtual idx) 3 pc') (hl : Cond.methodLink Y.1.cls idx Z.1 ∈ mm_T) (hz : mm_cv Z ci n) (ho : mm_ob S o ci fs) (hn : as.length = n) (hdd : d' + 1 ≤ d) (hst : (st.map fun v => v.category).sum ≤ 8)
    (hM : Ct S Z d' (.ref o :: as) M mm_fI F) (h : ∀ (r : Int32) (M' : mm_M), Sim S Y d pc' L (.int r :: st) M' fin (k r M')) : Sim S Y d pc L (as.reverse ++ .ref o :: st) M fin (mm_bi F k) := by
  intro res hr
  obtain ⟨x, M', hF, hk⟩ := mm_bi_some hr
  exact g_callV hd hl hz ho hn hdd hst (hM (x, M') hF) (h x M' res hk)
theorem sim_callVl (Z : mm_Y) (d' : Nat) (as st : List Value) {F : Option (Int64 × mm_M)} {k : Int64 → mm_M → Option α} (hd : mm_d Y pc (.invokevirtual idx) 3 pc') (hl : Cond.methodLink Y.1.cls idx Z.1 ∈ mm_T) (hz : mm_cv Z ci n) (ho : mm_ob S o ci fs) (hn : as.length = n) (hdd : d' + 1 ≤ d) (hst : (st.map fun v => v.category).sum ≤ 8)
    (hM : Ct S Z d' (.ref o :: as) M mm_fL F) (h : ∀ (r : Int64) (M' : mm_M), Sim S Y d pc' L (.long r :: st) M' fin (k r M')) : Sim S Y d pc L (as.reverse ++ .ref o :: st) M fin (mm_bi F k) := by
  intro res hr
  obtain ⟨x, M', hF, hk⟩ := mm_bi_some hr
  exact g_callV hd hl hz ho hn hdd hst (hM (x, M') hF) (h x M' res hk)
theorem sim_callVv (Z : mm_Y) (d' : Nat) (as st : List Value) {F : Option mm_M} {k : mm_M → Option α} (hd : mm_d Y pc (.invokevirtual idx) 3 pc') (hl : Cond.methodLink Y.1.cls idx Z.1 ∈ mm_T) (hz : mm_cv Z ci n) (ho : mm_ob S o ci fs) (hn : as.length = n) (hdd : d' + 1 ≤ d) (hst : (st.map fun v => v.category).sum ≤ 8)
    (hM : Ct S Z d' (.ref o :: as) M mm_fV F) (h : ∀ (M' : mm_M), Sim S Y d pc' L st M' fin (k M')) : Sim S Y d pc L (as.reverse ++ .ref o :: st) M fin (mm_bv F k) := by
  intro res hr
  obtain ⟨M', hF, hk⟩ := mm_bv_some hr
  exact g_callV hd hl hz ho hn hdd hst (hM M' hF) (h M' res hk)
theorem sim_callSi (Z : mm_Y) (d' : Nat) (as st : List Value) {F : Option (Int32 × mm_M)} {k : Int32 → mm_M → Option α} (hd : mm_d Y pc (.invokestatic idx) 3 pc') (hl : Cond.methodLink Y.1.cls idx Z.1 ∈ mm_T) (hz : mm_cs Z n) (hn : as.length = n) (hdd : d' + 1 ≤ d) (hst : (st.map fun v => v.category).sum ≤ 8)
    (hM : Ct S Z d' as M mm_fI F) (h : ∀ (r : Int32) (M' : mm_M), Sim S Y d pc' L (.int r :: st) M' fin (k r M')) : Sim S Y d pc L (as.reverse ++ st) M fin (mm_bi F k) := by
  intro res hr
  obtain ⟨x, M', hF, hk⟩ := mm_bi_some hr
  exact g_callS hd hl hz hn hdd hst (hM (x, M') hF) (h x M' res hk)
theorem sim_callSl (Z : mm_Y) (d' : Nat) (as st : List Value) {F : Option (Int64 × mm_M)} {k : Int64 → mm_M → Option α} (hd : mm_d Y pc (.invokestatic idx) 3 pc') (hl : Cond.methodLink Y.1.cls idx Z.1 ∈ mm_T) (hz : mm_cs Z n) (hn : as.length = n) (hdd : d' + 1 ≤ d) (hst : (st.map fun v => v.category).sum ≤ 8)
    (hM : Ct S Z d' as M mm_fL F) (h : ∀ (r : Int64) (M' : mm_M), Sim S Y d pc' L (.long r :: st) M' fin (k r M')) : Sim S Y d pc L (as.reverse ++ st) M fin (mm_bi F k) := by
  intro res hr
  obtain ⟨x, M', hF, hk⟩ := mm_bi_some hr
  exact g_callS hd hl hz hn hdd hst (hM (x, M') hF) (h x M' res hk)
theorem sim_callSv (Z : mm_Y) (d' : Nat) (as st : List Value) {F : Option mm_M} {k : mm_M → Option α} (hd : mm_d Y pc (.invokestatic idx) 3 pc') (hl : Cond.methodLink Y.1.cls idx Z.1 ∈ mm_T) (hz : mm_cs Z n) (hn : as.length = n) (hdd : d' + 1 ≤ d) (hst : (st.map fun v => v.category).sum ≤ 8)
    (hM : Ct S Z d' as M mm_fV F) (h : ∀ (M' : mm_M), Sim S Y d pc' L st M' fin (k M')) : Sim S Y d pc L (as.reverse ++ st) M fin (mm_bv F k) := by
  intro res hr
  obtain ⟨M', hF, hk⟩ := mm_bv_some hr
  exact g_callS hd hl hz hn hdd hst (hM M' hF) (h M' res hk)
theorem sim_callNi (Z : mm_Y) (d' : Nat) (as st : List Value) {F : Option (Int32 × mm_M)} {k : Int32 → mm_M → Option α} (hd : mm_d Y pc (.invokestatic idx) 3 pc') (hl : Cond.methodLinkNest Y.1.cls idx Z.1 "YoungBuyers" = Cond.methodLinkNest RX8 63 yX11_isFact "YoungBuyers") (hz : mm_cs Z n) (hn : as.length = n) (hdd : d' + 1 ≤ d) (hst : (st.map fun v => v.category).sum ≤ 8)
    (hM : Ct S Z d' as M mm_fI F) (h : ∀ (r : Int32) (M' : mm_M), Sim S Y d pc' L (.int r :: st) M' fin (k r M')) : Sim S Y d pc L (as.reverse ++ st) M fin (mm_bi F k) := by
  intro res hr
  obtain ⟨x, M', hF, hk⟩ := mm_bi_some hr
  exact g_callSN hd hl hz hn hdd hst (hM (x, M') hF) (h x M' res hk)
end CALLS
theorem mm_args (ad : Nat → Nat) : ∀ (i : Nat) (as : List Value), lv_args i (mm_cS ad as) = mm_cL ad (lv_args i as)
  | _, [] => rfl
  | i, v :: vs => by
    have ih := mm_args ad (if v.category = 2 then i + 2 else i + 1) vs
    show (i, mm_conc ad v) :: lv_args (if (mm_conc ad v).category = 2 then i + 2 else i + 1) (mm_cS ad vs) = (i, mm_conc ad v) :: mm_cL ad (lv_args (if v.category = 2 then i + 2 else i + 1) vs)
    rw [mm_cat, ih]
theorem mm_sl_len (ad : Nat → Nat) : ∀ as : List Value, (lg_sl (mm_cS ad as)).length = (lg_sl as).length
  | [] => rfl
  | v :: vs => by
    have ih := mm_sl_len ad vs
    unfold lg_sl mm_cS at ih ⊢
    simp only [List.map_cons, List.flatMap_cons, List.length_append, mm_cat]
    rw [ih]
    split <;> rfl
/-- a method's contract out of its body -/
theorem ct_of_sim {β : Type} {S : mm_S} {Z : mm_Y} {d : Nat} {as : List Value} {M : mm_M} {fin : β → Option Value × mm_M} {F : Option β} {L : mm_L} (hy : plainName Z.1.cls = true) (hL : lv_args 0 as = L) (hn : (lg_sl as).length ≤ Z.2.2.1) (h : Sim S Z d 0 L [] M fin F) : Ct S Z d as M fin F := by
  intro res hr l D cA ad hi
  refine Met.ofW (cc := Z.2.1) (maxL := Z.2.2.1) (ret := Z.2.2.2) hy rfl ?_
  intro p e s m args below meth c s₁ B hml hv
  obtain ⟨rfl, hP, hK, hN⟩ := hv
  have hts := atoms_spec (ws := mm_ws Z) B.pre
  have hown : s.vm.findClass Z.1.cls = some m.cls := findClass_of_methodNamed B.named
  have hle : (lg_sl (mm_cS ad as)).length ≤ Z.2.2.1 := by rw [mm_sl_len]; exact hn
  have hl := lv_entry (mm_cS ad as) (n := Z.2.2.1) hle
  rw [mm_args, hL] at hl
  rw [lg_entry_eq]
  exact h res hr p l e s m _ below meth c D cA ad ⟨B.exec, B.bytes, hml, B.returns, B.notSynchronized, hown, fun w hw => hts w (List.mem_cons_of_mem _ hw), hK, hi, hN⟩ s.heap [] _ hP va_S.rf hl
/-! switches -/
def mm_case {α : Type} (x : Int32) : List Int32 → List (Option α) → Option α → Option α
  | k :: ks, X :: Xs, Xd => if x = k then X else mm_case x ks Xs Xd
  | _, _, Xd => Xd
def mm_f2 {α : Type} (P : Nat → Option α → Prop) : List Nat → List (Option α) → Prop
  | t :: ts, X :: Xs => P t X ∧ mm_f2 P ts Xs
  | [], [] => True
  | _, _ => False
def mm_swok (pc : Nat) (dflt lo hi : Int) (offs : Array Int) (ks : List Int32) (ts : List Nat) (td : Nat) : Bool :=
  decide ((pc : Int) + dflt = (td : Int)) && decide (hi - lo + 1 = (offs.size : Int)) && decide (ks.length = ts.length) &&
  (ks.zip ts).all (fun q => decide (lo ≤ q.1.toInt ∧ q.1.toInt ≤ hi ∧ offs[(q.1.toInt - lo).toNat]? = some ((q.2 : Int) - pc))) &&
  (List.range offs.size).all (fun j => ks.any (fun k => decide (k.toInt = lo + (j : Int))) || decide (offs[j]? = some ((td : Int) - pc)))
theorem mm_case_sim {α : Type} {x : Int32} {P : Nat → Prop} {Q : Nat → Option α → Prop} {X : Option α → Prop} (hQ : ∀ t Y, P t → Q t Y → X Y) : ∀ {ks : List Int32} {ts : List Nat} {Xs : List (Option α)} {Xd : Option α}, ks.length = ts.length → mm_f2 Q ts Xs → (∀ k t, (k, t) ∈ ks.zip ts → x = k → P t) → ((∀ k ∈ ks, ¬ x = k) → X Xd) → X (mm_case x ks Xs Xd)
  | [], [], [], Xd, _, _, _, hd => hd (fun _ h => by cases h)
  | k :: ks, t :: ts, Y :: Xs, Xd, hl, hf, hp, hd => by
    unfold mm_case
    by_cases hk : x = k
    · rw [if_pos hk]
      exact hQ t Y (hp k t (by simp) hk) hf.1
    · rw [if_neg hk]
      exact mm_case_sim hQ (by simpa using hl) hf.2 (fun k' t' h => hp k' t' (by simp [h])) (fun h => hd (fun k' h' => by
        rcases List.mem_cons.mp h' with rfl | h'
        · exact hk
        · exact h k' h'))
  | [], [], _ :: _, _, _, hf, _, _ => hf.elim
  | _ :: _, _ :: _, [], _, _, hf, _, _ => hf.elim
  | [], _ :: _, _, _, hl, _, _, _ => by simp at hl
  | _ :: _, [], _, _, hl, _, _, _ => by simp at hl
theorem sim_tsw {α : Type} {S : mm_S} {Y : mm_Y} {d pc pc' n td : Nat} {L : mm_L} {st : List Value} {M : mm_M} {fin : α → Option Value × mm_M} {dflt lo hi : Int} {offs : Array Int} {x : Int32} {ks : List Int32} {Xs : List (Option α)} {Xd : Option α} (ts : List Nat) (hd : mm_d Y pc (.tableswitch dflt lo hi offs) n pc') (hk : mm_swok pc dflt lo hi offs ks ts td = true)
    (h : mm_f2 (fun t X => Sim S Y d t L st M fin X) ts Xs) (hdf : Sim S Y d td L st M fin Xd) : Sim S Y d pc L (.int x :: st) M fin (mm_case x ks Xs Xd) := by
  unfold mm_swok at hk
  simp only [Bool.and_eq_true, decide_eq_true_eq, List.all_eq_true, Bool.or_eq_true, List.any_eq_true] at hk
  obtain ⟨⟨⟨⟨k1, k2⟩, k3⟩, k4⟩, k5⟩ := hk
  refine mm_case_sim (P := fun t => ∀ (res : α) p l e s m args below meth c D cA ad, mm_ctx S Y p s m args meth c D cA ad → ∀ (H : Heap) (locs : List Loc) (ls : Array Slot), W p l e (mm_room d) s m args below meth c H locs 0 0 (MQ below (mm_Q S D cA ad (fin res)) args s 0 0 (mm_A S ad)) (F0 m t ls (mm_cS ad st)) → W p l e (mm_room d) s m args below meth c H locs 0 0 (MQ below (mm_Q S D cA ad (fin res)) args s 0 0 (mm_A S ad)) (F0 m pc ls (.int x :: mm_cS ad st))) (Q := fun t X => Sim S Y d t L st M fin X) (X := fun X => Sim S Y d pc L (.int x :: st) M fin X) ?_ k3 h ?_ ?_
  · intro t Y' hP hQ res hr p l e s m args below meth c D cA ad hc H locs ls hP' hS hl
    exact hP res p l e s m args below meth c D cA ad hc H locs ls (hQ res hr p l e s m args below meth c D cA ad hc H locs ls hP' hS hl)
  · intro k t hkt hx res p l e s m args below meth c D cA ad hc H locs ls hW
    obtain ⟨a1, a2, a3⟩ := k4 (k, t) hkt
    dsimp only at a1 a2 a3
    subst hx
    exact lv_tableIn hc.1 hc.2.1 hd.1 (by omega) (by omega) a3 (by omega) hW
  · intro hno res hr p l e s m args below meth c D cA ad hc H locs ls hP hS hl
    have hW := hdf res hr p l e s m args below meth c D cA ad hc H locs ls hP hS hl
    by_cases hr1 : x.toInt < lo ∨ hi < x.toInt
    · exact lv_tableOut hc.1 hc.2.1 hd.1 hr1 k1 hW
    · have b1 : lo ≤ x.toInt := by omega
      have b2 : x.toInt ≤ hi := by omega
      have b3 : (x.toInt - lo).toNat < offs.size := by omega
      rcases k5 _ (List.mem_range.mpr b3) with ⟨k, hk1, hk2⟩ | hk
      · exact absurd (Int32.toInt_inj.mp (by rw [hk2]; omega)) (hno k hk1)
      · exact lv_tableIn hc.1 hc.2.1 hd.1 (by omega) (by omega) hk (by omega) hW

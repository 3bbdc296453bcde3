set_option maxRecDepth 20000 in
theorem it_Thr : Cond.initialized "java/lang/Throwable" ∈ mm_T := mm_tbk mm_t1 15 rfl rfl
theorem ex_str {args : Array Value} {s : State} {t : Term} {cls : String} (h : (Cond.exactly t cls).before args s = true) : ∃ a, t.eval args s none [] s = some (.ref a) := by
  simp only [Cond.before, Cond.holds, Cond.value] at h
  cases he : t.eval args s none [] s with
  | none => simp [he] at h
  | some v =>
    cases v with
    | ref a => exact ⟨a, rfl⟩
    | _ => cases hf : s.vm.findClass cls <;> simp [he, hf] at h
theorem ex_arr {args : Array Value} {s : State} {ty : FieldType} (h : (Cond.arrayClass ty).before args s = true) : ∃ cA : ClassId, ArrOfT s cA ty ∧ s.vm.findClass ("[" ++ ty.toString) = some cA := by
  obtain ⟨cA, kA, comp, h1, h2, h3⟩ := Cond.arrayClass_spec h
  exact ⟨cA, fun n z => ⟨(fun k h => nomatch h), kA, h2, comp, h3⟩, h1⟩
theorem xB_in : xB.all (fun w => decide (w ∈ lw_tbl)) = true := by decide +kernel
theorem nest_in : Cond.methodLinkNest RX8 63 yX11_isFact "YoungBuyers" ∈ lw_tbl := by decide +kernel
theorem sr1_in : Cond.stringRef RX11 215 "nothing was drawn" ∈ lw_tbl := by decide +kernel
theorem sr2_in : Cond.stringRef RX11 222 "what is 0 .. 3" ∈ lw_tbl := by decide +kernel
theorem ls1_in : Cond.laysStatic Bundle.tN "UNASSIGNED_STACK" Bundle.steD ∈ lw_tbl := by decide +kernel
theorem ls2_in : Cond.laysStatic Bundle.tN "SUPPRESSED_SENTINEL" Bundle.listD ∈ lw_tbl := by decide +kernel
set_option maxRecDepth 100000 in
set_option maxHeartbeats 8000000 in
/-- THE LAW, from its entry, if the pure statements hold -/
theorem whole_start {Rel : mm_M → mm_M → Prop} (h0 : Rel M0C M0R) (hops : OpsOk Rel) {p : Program} {e : Env} {s : State} {m : MethodId} {below : List Frame} {meth : Method} {c : Code} (l : Launch) (hlt : l.stackTraces = false) {b L : Nat} {xs : Nat → Int32} (hL : L ≤ 3584) (C0 : lw_At p s m meth c b L xs) : W p l e room_1 s m #[Value.ref b] below meth c s.heap [] 0 0 (lw_Z below #[Value.ref b] s) (entryFrame m ([Value.ref b] : List Value).toArray 8) := by
  obtain ⟨hx, hb, hr, hml, hown, hts0, hX, hbl, hlocks, hgv⟩ := id C0
  have hts : ∀ w ∈ mm_T, w.before #[Value.ref b] s = true := fun w hw => hts0 w (List.mem_filter.mp hw).1
  have hflat := flat_of_before _ hgv
  have hown : s.vm.findClass RL = some m.cls := hown
  have hb : c.code = cL_law := hb
  obtain ⟨c0, iS0, hKn0⟩ := u_known (C := RX0) (T := TX0) (N := 5) (n := 5) hts cls_X0.2.1 (hts (.instantiable RX0 5) in_X0)
  obtain ⟨c1, iS1, hKn1⟩ := u_known (C := RX1) (T := TX1) (N := 8) (n := 8) hts cls_X1.2.1 (hts (.instantiable RX1 8) in_X1)
  obtain ⟨c2, iS2, hKn2⟩ := u_known (C := RX2) (T := TX2) (N := 7) (n := 7) hts cls_X2.2.1 (hts (.instantiable RX2 7) in_X2)
  obtain ⟨c3, iS3, hKn3⟩ := u_known (C := RX3) (T := TX3) (N := 2) (n := 2) hts cls_X3.2.1 (hts (.instantiable RX3 2) in_X3)
  obtain ⟨c4, iS4, hKn4⟩ := u_known (C := RX4) (T := TX4) (N := 12) (n := 12) hts cls_X4.2.1 (hts (.instantiable RX4 12) in_X4)
  obtain ⟨c5, iS5, hKn5⟩ := u_known (C := RX5) (T := TX5) (N := 6) (n := 6) hts cls_X5.2.1 (hts (.instantiable RX5 6) in_X5)
  obtain ⟨c6, iS6, hKn6⟩ := u_known (C := RX6) (T := TX6) (N := 9) (n := 9) hts cls_X6.2.1 (hts (.instantiable RX6 9) in_X6)
  obtain ⟨c7, iS7, hKn7⟩ := u_known (C := RX7) (T := TX7) (N := 5) (n := 5) hts cls_X7.2.1 (hts (.instantiable RX7 5) in_X7)
  obtain ⟨c8, iS8, hKn8⟩ := u_known (C := RX8) (T := TX8) (N := 6) (n := 6) hts cls_X8.2.1 (hts (.instantiable RX8 6) in_X8)
  obtain ⟨c9, iS9, hKn9⟩ := u_known (C := RX9) (T := TX9) (N := 8) (n := 8) hts cls_X9.2.1 (hts (.instantiable RX9 8) in_X9)
  obtain ⟨c10, iS10, hKn10⟩ := u_known (C := RX10) (T := TX10) (N := 13) (n := 13) hts cls_X10.2.1 (hts (.instantiable RX10 13) in_X10)
  obtain ⟨c11, iS11, hKn11⟩ := u_known (C := RX11) (T := TX11) (N := 18) (n := 18) hts cls_X11.2.1 (hts (.instantiable RX11 18) in_X11)
  obtain ⟨c12, iS12, hKn12⟩ := u_known (C := RX12) (T := TX12) (N := 77) (n := 77) hts cls_X12.2.1 (hts (.instantiable RX12 77) in_X12)
  obtain ⟨cI, hI1, hI2⟩ := ex_arr (hts _ ac_int)
  obtain ⟨cZ, hZ1, hZ2⟩ := ex_arr (hts _ ac_boolean)
  obtain ⟨cJ, hJ1, hJ2⟩ := ex_arr (hts _ ac_long)
  obtain ⟨cA, hcA0, hcA1, hcA2⟩ : ∃ cA : Nat → ClassId, cA 0 = cI ∧ cA 1 = cZ ∧ cA 2 = cJ := ⟨fun k => match k with | 0 => cI | 1 => cZ | _ => cJ, rfl, rfl, rfl⟩
  obtain ⟨D, hD0⟩ : ∃ D : va_G, ∀ (k : Nat) (q : vw_C), mm_cl[k]? = some q → u_Kn s q.1 q.2.1 q.2.2 (D.1 k) (D.2 k) := by
    refine ⟨(fun k => ([c0, c1, c2, c3, c4, c5, c6, c7, c8, c9, c10, c11, c12] : List ClassId).getD k 0, fun k => ([iS0, iS1, iS2, iS3, iS4, iS5, iS6, iS7, iS8, iS9, iS10, iS11, iS12] : List (Nat → Nat)).getD k (fun _ => 0)), ?_⟩
    intro k q hq
    exact match k, hq with
      | 0, hq => by cases hq; exact hKn0
      | 1, hq => by cases hq; exact hKn1
      | 2, hq => by cases hq; exact hKn2
      | 3, hq => by cases hq; exact hKn3
      | 4, hq => by cases hq; exact hKn4
      | 5, hq => by cases hq; exact hKn5
      | 6, hq => by cases hq; exact hKn6
      | 7, hq => by cases hq; exact hKn7
      | 8, hq => by cases hq; exact hKn8
      | 9, hq => by cases hq; exact hKn9
      | 10, hq => by cases hq; exact hKn10
      | 11, hq => by cases hq; exact hKn11
      | 12, hq => by cases hq; exact hKn12
      | k + 13, hq => by simp [mm_cl] at hq
  have hK : va_K D mm_cl (mm_tys cA) s := by
    refine ⟨hD0, fun k q hk => ?_⟩
    match k, hk with
    | 0, hk => cases hk; rw [hcA0]; exact ⟨hI1, hI2⟩
    | 1, hk => cases hk; rw [hcA1]; exact ⟨hZ1, hZ2⟩
    | 2, hk => cases hk; rw [hcA2]; exact ⟨hJ1, hJ2⟩
    | k + 3, hk => simp [mm_tys] at hk
  have hN : mm_nw s := va_Nw.of rfl (hts0 _ nest_in)
  obtain ⟨sa1, hsa1⟩ := ex_str (hflat (.exactly (.string RX11 215) "java/lang/String") (by decide +kernel))
  obtain ⟨sa2, hsa2⟩ := ex_str (hflat (.exactly (.string RX11 222) "java/lang/String") (by decide +kernel))
  have hxK : xK sa1 sa2 s := ⟨fun w hw => va_Nw.of (xB_ot w hw) (hts0 w (of_decide_eq_true (List.all_eq_true.mp xB_in w hw))), vk_R.of (hts0 _ sr1_in) hsa1, vk_R.of (hts0 _ sr2_in) hsa2⟩
  have hNc : va_Nc xE2 xE1 s := va_Nc.of (hflat (.not (.castable xE2 xE1)) (by decide +kernel))
  have hxZ : xZ (fun q => s.heap.size ≤ q) s s.heap := ⟨vx_Zqof (hts0 _ ls1_in) (hts _ it_Thr) (hflat (.isRef (.static Bundle.tN "UNASSIGNED_STACK" Bundle.steD)) (by decide +kernel)) (fun a h h2 => by omega), vx_Zqof (hts0 _ ls2_in) (hts _ it_Thr) (hflat (.isRef (.static Bundle.tN "SUPPRESSED_SENTINEL" Bundle.listD)) (by decide +kernel)) (fun a h h2 => by omega)⟩
  have hA : ∀ q : Nat, s.heap.size ≤ q → (fun q : Nat => s.heap.size ≤ q) q := fun _ h => h
  have hS : va_S (fun q : Nat => s.heap.size ≤ q) s.heap s.heap [] := va_S.rf
  have hP : va_P D mm_cl [] s.heap := fun k q h => by simp at h
  have hD : va_D (fun q : Nat => s.heap.size ≤ q) [] := ⟨fun i j p q h => by simp at h, fun k q h => by simp at h⟩
  have hl := lv_entry ([.ref b]) (n := 8) (Nat.le_of_ble_eq_true rfl)
  rw [lg_entry_eq]
  generalize (lg_sl ([.ref b]) ++ List.replicate (8 - (lg_sl ([.ref b])).length) Slot.unset).toArray = ls at hl ⊢
  have hl : lv_has ls 8 [(0, .ref b)] := hl
  refine wk_make (Z := Y_X11_init) (own := RL) (fs := df_X11) (wr := []) hx hb hml hts hown hK hN cls_X11 cl_L_8 in_X11 it_X11 df_X11_ok lk_L_17 cz_X11_init ii_X11_init rfl rfl (by decide) (by decide) (by decide) (by decide) cti_X11_init hP hD hS hA hl.1 dL_0 dL_3 dL_4 (fun qx w1 H1 locs1 hw1 hP hD hS => ?_)
  refine lv_astore_n (lv' := [(1, .ref qx), (0, .ref b)]) hx hb dL_7 rfl hl (by decide) rfl (fun ls hl => ?_)
  refine wk_make (Z := Y_X12_init) (own := RL) (fs := df_X12) (wr := [] ++ w1) hx hb hml hts hown hK hN cls_X12 cl_L_18 in_X12 it_X12 df_X12_ok lk_L_20 cz_X12_init ii_X12_init rfl rfl (by decide) (by decide) (by decide) (by decide) cti_X12_init hP hD hS hA hl.1 dL_8 dL_11 dL_12 (fun qm w2 H2 locs2 hw2 hP hD hS => ?_)
  refine lv_astore_n (lv' := [(2, .ref qm), (1, .ref qx), (0, .ref b)]) hx hb dL_15 rfl hl (by decide) rfl (fun ls hl => ?_)
  refine lv_iconst (v := 1) hx hb dL_16 (by decide) ?_
  refine va_newa (atype := .long) (ty := .long) (N' := 1) (a0 := (1, .inr (.inl (fun _ => 0)))) hx hb (hts _ ac_long) rfl hK hP hD hS hA (fun _ => rfl) (by decide) rfl (by decide) (by decide) (by decide) dL_17 (fun qo cB H3 hK2 hP hD hS => ?_)
  cases cs_tyA (kd := 2) hK rfl (Or.inr (Or.inr rfl)) hK2
  refine lv_astore_n (lv' := [(3, .ref qo), (2, .ref qm), (1, .ref qx), (0, .ref b)]) hx hb dL_19 rfl hl (by decide) rfl (fun ls hl => ?_)
  refine lv_iconst (v := 0) hx hb dL_20 (by decide) ?_
  refine lv_istore (lv' := [(4, .int 0), (3, .ref qo), (2, .ref qm), (1, .ref qx), (0, .ref b)]) hx hb dL_21 hl (by decide) rfl (fun ls hl => ?_)
  rw [List.nil_append] at hP hD
  have hPo : va_P D mm_cl (lb_c cA qo (fun _ => 0)) H3 := wk_Pr hP
  have hDo : va_D (fun q : Nat => s.heap.size ≤ q) (lb_c cA qo (fun _ => 0)) := wk_Dr hD
  have hP12 := wk_Pl hP
  have hD12 := wk_Dl hD
  have hap1 : ∀ {i j : Nat} {x y : Nat × va_E}, w1[i]? = some x → w2[j]? = some y → x.1 ≠ y.1 := fun h1 h2 => wk_apart hD12 h1 h2
  have hap2 : ∀ {i : Nat} {x : Nat × va_E}, w1[i]? = some x → x.1 ≠ qo := fun {i x} h1 => wk_apart (y := (qo, .inl (cA 2, 1, .inr (.inl (fun _ => 0))))) (j := 0) hD (by rw [List.getElem?_append_left (List.getElem?_eq_some_iff.mp h1).1]; exact h1) rfl
  have hap3 : ∀ {i : Nat} {x : Nat × va_E}, w2[i]? = some x → x.1 ≠ qo := fun {i x} h1 => wk_apart (i := w1.length + i) (y := (qo, .inl (cA 2, 1, .inr (.inl (fun _ => 0))))) (j := 0) hD (by rw [List.getElem?_append_right (Nat.le_add_right _ _), Nat.add_sub_cancel_left]; exact h1) rfl
  have hP1 := wk_Pl hP12
  have hP2 := wk_Pr hP12
  have hD1 := wk_Dl hD12
  have hD2 := wk_Dr hD12
  obtain ⟨adC, heC, hxC⟩ : ∃ adC : Nat → Nat, pl_C.map (fun i => w1[i]?) = (mm_W sysC cA adC M0C).map some ∧ adC 0 = qx := by
    obtain ⟨q1, q2, q3, q4, q5, q6, q7, q8, q9, q10, q11, q12, q13, q14, q15, q16, q17, q18, q19, q20, q21, q22, q23, q24, q25, q26, q27, q28, q29, q30, q31, q32, q33, q34, q35, q36, q37, q38, q39, q40, q41, q42, q43, q44, q45, q46, q47, q48, q49, q50, q51, q52, q53, q54, q55, q56, q57, q58, q59, q60, q61, q62, q63, q64, q65, q66, q67, q68, q69, q70, q71, q72, q73, q74, rfl⟩ := hw1
    exact ⟨ad_C qx q1 q2 q3 q4 q5 q6 q7 q8 q9 q10 q11 q12 q13 q14 q15 q16 q17 q18 q19 q20 q21 q22 q23 q24 q25 q26 q27 q28 q29 q30 q31 q32 q33 q34 q35 q36 q37 q38 q39 q40 q41 q42 q43 q44 q45 q46 q47 q48 q49 q50 q51 q52 q53 q54 q55 q56 q57 q58 q59 q60 q61 q62 q63 q64 q65 q66 q67 q68 q69 q70 q71 q72 q73 q74, w0_C_eq cA qx q1 q2 q3 q4 q5 q6 q7 q8 q9 q10 q11 q12 q13 q14 q15 q16 q17 q18 q19 q20 q21 q22 q23 q24 q25 q26 q27 q28 q29 q30 q31 q32 q33 q34 q35 q36 q37 q38 q39 q40 q41 q42 q43 q44 q45 q46 q47 q48 q49 q50 q51 q52 q53 q54 q55 q56 q57 q58 q59 q60 q61 q62 q63 q64 q65 q66 q67 q68 q69 q70 q71 q72 q73 q74, rfl⟩
  obtain ⟨adR, heR, hxR⟩ : ∃ adR : Nat → Nat, pl_R.map (fun i => w2[i]?) = (mm_W sysR cA adR M0R).map some ∧ adR 0 = qm := by
    obtain ⟨z1, z2, z3, z4, z5, z6, z7, z8, z9, z10, z11, z12, z13, z14, z15, z16, z17, z18, z19, z20, z21, z22, z23, z24, z25, z26, z27, z28, z29, z30, z31, z32, z33, z34, z35, z36, z37, z38, z39, z40, z41, z42, z43, z44, z45, z46, z47, z48, z49, z50, z51, z52, z53, z54, rfl⟩ := hw2
    exact ⟨ad_R qm z1 z2 z3 z4 z5 z6 z7 z8 z9 z10 z11 z12 z13 z14 z15 z16 z17 z18 z19 z20 z21 z22 z23 z24 z25 z26 z27 z28 z29 z30 z31 z32 z33 z34 z35 z36 z37 z38 z39 z40 z41 z42 z43 z44 z45 z46 z47 z48 z49 z50 z51 z52 z53 z54, w0_R_eq cA qm z1 z2 z3 z4 z5 z6 z7 z8 z9 z10 z11 z12 z13 z14 z15 z16 z17 z18 z19 z20 z21 z22 z23 z24 z25 z26 z27 z28 z29 z30 z31 z32 z33 z34 z35 z36 z37 z38 z39 z40 z41 z42 z43 z44 z45 z46 z47 z48 z49 z50 z51 z52 z53 z54, rfl⟩
  have hCtx : LwC p l s m meth c b L xs D cA adC adR qo sa1 sa2 := by
    refine ⟨hx, hb, hml, hr, hlocks, hown, hts, hK, hN, hX, hbl, wk_inj heC pl_C_nd hD1, wk_inj heR pl_R_nd hD2, ?_, ?_, ?_, wk_A heC hD1, wk_A heR hD2, hDo.2 0 _ rfl, hxK, hNc, hxZ, hlt⟩
    · rintro q ⟨k, hk, rfl⟩ ⟨k2, hk2, he⟩
      obtain ⟨i, hi⟩ := wk_mem heR hk
      obtain ⟨j, hj⟩ := wk_mem heC hk2
      exact hap1 hj hi he.symm
    · rintro ⟨k, hk, he⟩
      obtain ⟨i, hi⟩ := wk_mem heC hk
      exact hap2 hi he.symm
    · rintro ⟨k, hk, he⟩
      obtain ⟨i, hi⟩ := wk_mem heR hk
      exact hap3 hi he.symm
  refine W.widen (k := 140 + 0) (n := 20000 + 0) (by decide) (by decide) ?_
  refine law_loop hops hL hCtx (L + 8) 0 (Nat.zero_le _) (by omega) M0C M0R (fun _ => 0) H3 _ ls ⟨h0, wk_P heC hP1, wk_P heR hP2, hPo, hS, ?_⟩
  rw [hxC, hxR]
  exact lv_sub hl [4, 3, 2, 1, 0] rfl

set_option maxHeartbeats 4000000 in
theorem lw_walk {Rel : mm_M → mm_M → Prop} (h0 : Rel M0C M0R) (hops : OpsOk Rel) (l : Launch) (hlt : l.stackTraces = false) (b : Addr) (xs : List Int32) : MetFree l x (headSpec (Jvm.Cond.code x code maxLocals ret :: tables_1) room_1) (lw_P b xs) (fun _ _ _ _ _ => True) lw_Q := by
  refine MetFree.of_bodyS (code := code) (maxLocals := maxLocals) (ret := ret) (by decide) ?_ ?_
  · intro args s m h hn
    obtain ⟨meth, c, h1, h2, h3, h4, h5, h6, -, -⟩ := Cond.code_spec hn (atoms_spec (ws := Jvm.Cond.code x code maxLocals ret :: tables_1) h _ List.mem_cons_self)
    exact ⟨meth, c, h1, h2, h3, h4, h5, h6⟩
  · intro p e s m args below meth c s₁ B hml0 hP _
    obtain ⟨rfl, hx, hbd, hgv⟩ := hP
    obtain ⟨scr, harrAt, hlist, hof, hsmall⟩ := hx
    obtain ⟨hcb, hkn, -, -⟩ := State.arrayAt?_spec harrAt
    have hown : s.vm.findClass R_law = some m.cls := findClass_of_methodNamed B.named
    have hts0 : ∀ c ∈ (Jvm.Cond.code x code maxLocals ret :: tables_1), c.before #[Value.ref b] s = true := atoms_spec (ws := Jvm.Cond.code x code maxLocals ret :: tables_1) B.pre
    have hts : ∀ w ∈ lw_tbl, w.before #[Value.ref b] s = true := k2_hts_sels lw_privs (fun w hw => hts0 w (List.mem_cons_of_mem _ hw)) lw_privs_ok
    have hml : c.maxLocals = 8 := B.maxLocals_eq (hts0 _ List.mem_cons_self)
    have X₀ : Stand p l e room_1 s m #[Value.ref b] below meth c s₁ [] 0 0 := Stand.of_body B
    have hh0 : s₁.heap = s.heap := by rw [B.state]; rfl
    have hsz : scr.slots.size = xs.length := by rw [← Array.length_toList, hlist, List.length_map]
    have hval : ∀ j : Nat, j < xs.length → scr.slots[j]? = some (.int (xs.getD j 0)) := fun j hj => by
      rw [← Array.getElem?_toList, hlist]
      simp [hj]
    have hbl : b < s.heap.size := (Array.getElem?_eq_some_iff.mp hcb).1
    have hX : va_X b xs.length (fun j => xs.getD j 0) s s.heap := ⟨scr, hcb, hof, hkn, hsz, hval⟩
    have K : W p l e room_1 s m #[Value.ref b] below meth c s₁.heap [] 0 0 (lw_Z below #[Value.ref b] s) (entryFrame m ([Value.ref b] : List Value).toArray 8) := by
      rw [hh0]
      exact whole_start h0 hops l hlt hbd ⟨B.exec, B.bytes, B.returns, hml, hown, hts, hX, hbl, B.notSynchronized, hgv⟩
    obtain ⟨t, a1, o, b1, b2, b3⟩ := K s₁ rfl X₀
    exact ⟨t, o, a1, b1, b2, b3⟩
theorem lw_pre_spec {args : Array Value} {s : State} (h : (Jvm.Cond.and given_1 narrow_1).before args s = true) (hr : rest_1_c.before args s = true) : ∃ (b : Addr) (xs : List Int32), lw_P b xs args s := by
  have hs := flat_of_before _ h
  have hq := flat_of_before _ hr
  have hc : (Cond.count 1).before args s = true := hs _ (by decide +kernel)
  have harr : (Cond.arrayOf (.arg 0) .int).before args s = true := hs _ (by decide +kernel)
  have hle : (Cond.le (.length (.arg 0)) (.int 3584)).before args s = true := hs _ (by decide +kernel)
  have hlen : (Cond.isInt (.length (.arg 0))).before args s = true := hq _ (by decide +kernel)
  have hall : (Cond.all (.arg 0) (.isInt (.elem (.arg 0) (.index 0)))).before args s = true := hq _ (by decide +kernel)
  obtain ⟨b, xs, hb, hx⟩ := State.ints_of_pre rfl harr hlen hall
  have hsm : xs.length < 2 ^ 31 := hx.choose_spec.2.2.2
  have hev : (Term.length (.arg 0)).eval args s none [] s = some (.int xs.length.toInt32) := hx.length_eval hb
  have hv := Cond.le_ints hev (show (Term.int 3584).eval args s none [] s = some (.int 3584) from rfl)
  have hd : xs.length.toInt32 ≤ 3584 := by
    simpa [Cond.before, Cond.holds, hv] using hle
  have hN : xs.length ≤ 3584 := (Int32.ofNat_le_ofNat hsm (by decide)).mp (show Int32.ofNat xs.length ≤ Int32.ofNat 3584 from hd)
  exact ⟨b, xs, Cond.one_arg hc (show args[0]? = some (.ref b) from hb), hx, hN, h⟩
theorem lw_comes {Rel : mm_M → mm_M → Prop} (h0 : Rel M0C M0R) (hops : OpsOk Rel) (l : Launch) (hlt : l.stackTraces = false) : Comes l x (Jvm.Cond.code x code maxLocals ret :: tables_1) room_1 (fun tb e args s => Calls_1 tb e args s ∧ rest_1 tb e args s ∧ Pre_1 tb e args s)
    (fun _ _ args s o t => lw_Q args s o t) := by
  intro p e ha hc hk s m args below hf hfit hheap happ hpre
  obtain ⟨b, xs, hP⟩ := lw_pre_spec hpre.2.2 hpre.2.1
  obtain ⟨k, o, h1, h2, h3, hQ⟩ := lw_walk h0 hops l hlt b xs p e ha hc hk s m args below hf ((Spec.applies_iff_loose hf).mp happ).1 hP trivial
  exact ⟨k, o, h1, h2, h3, hQ⟩
theorem lw_frame {s t : State} {o : Outcome} {args : Array Value} (h : Framed s o t [] 601024 7293034) :
    Framed s o t (fieldLocs frame_1_writes args s ++ arrayLocs frame_1_arrays args s ++ staticLocs frame_1_statics s) 601024 7293034 := h
theorem lw_limb {Rel : mm_M → mm_M → Prop} (h0 : Rel M0C M0R) (hops : OpsOk Rel) (L : Cond) (hL : ∀ (args : Array Value) (s t : State), L.after args s (.returned (some (.int 1))) t = true) :
    ArmFor flags0 classFile x code maxLocals ret World_1 tables_1 room_1 Calls_1 rest_1 Pre_1
      (fun tb e a s o t => postC L tb e a s o t ∧ Framed s o t (fieldLocs frame_1_writes a s ++ arrayLocs frame_1_arrays a s ++ staticLocs frame_1_statics s) 601024 7293034) := by
  intro l hfl _ _ p e ha hc hk s m args below hf hfit hheap happ hpre
  obtain ⟨k, o, h1, h2, h3, rfl, hF⟩ := lw_comes h0 hops l (by unfold Launch.stackTraces; rw [hfl]; decide +kernel) p e ha hc hk s m args below hf hfit hheap happ hpre
  exact ⟨k, _, h1, h2, h3, hL args s _, lw_frame hF⟩
theorem claim_of {Rel : mm_M → mm_M → Prop} (h0 : Rel M0C M0R) (hops : OpsOk Rel) : Claimed_1_1 ∧ Claimed_1_2 := ⟨lw_limb h0 hops limb_1_1 (fun args s t => by simp [limb_1_1, Cond.after, Cond.holds, Cond.value]), lw_limb h0 hops limb_1_2 (fun args s t => Cond.after_iff.mpr (by
  first | (rw [show limb_1_2 = Cond.eq .result (.int 1) from rfl, Cond.eq_ints (x := 1) (y := 1) rfl rfl]; simp; done) | (simp [limb_1_2, Cond.value, Term.eval]; done)))⟩


theorem dK_0 : decode cL_back 0 = .ok (.aload_n 2, 1) := by decide +kernel
theorem dK_1 : decode cL_back 1 = .ok (.iconst 0, 1) := by decide +kernel
theorem dK_2 : decode cL_back 2 = .ok (.aload_n 0, 1) := by decide +kernel
theorem dK_3 : decode cL_back 3 = .ok (.iload_n 1, 1) := by decide +kernel
theorem dK_4 : decode cL_back 4 = .ok (.invokevirtual 7, 3) := by decide +kernel
theorem dK_7 : decode cL_back 7 = .ok (.lastore, 1) := by decide +kernel
theorem dK_8 : decode cL_back 8 = .ok (.goto 9, 3) := by decide +kernel
theorem dK_11 : decode cL_back 11 = .ok (.astore_n 3, 1) := by decide +kernel
theorem dK_12 : decode cL_back 12 = .ok (.iconst 1, 1) := by decide +kernel
theorem dK_13 : decode cL_back 13 = .ok (.ireturn, 1) := by decide +kernel
theorem dK_14 : decode cL_back 14 = .ok (.astore_n 3, 1) := by decide +kernel
theorem dK_15 : decode cL_back 15 = .ok (.iconst 2, 1) := by decide +kernel
theorem dK_16 : decode cL_back 16 = .ok (.ireturn, 1) := by decide +kernel
theorem dK_17 : decode cL_back 17 = .ok (.iconst 0, 1) := by decide +kernel
theorem dK_18 : decode cL_back 18 = .ok (.ireturn, 1) := by decide +kernel
set_option maxRecDepth 20000 in
theorem lk_L_7 : Cond.methodLink RL 7 yX11_back ∈ mm_T := mm_tbk mm_t5 50 rfl rfl
set_option maxRecDepth 20000 in
theorem cl_L_13 : Cond.classLink RL 13 xE1 ∈ mm_T := mm_tbk mm_t5 48 rfl rfl
set_option maxRecDepth 20000 in
theorem cl_L_15 : Cond.classLink RL 15 xE2 ∈ mm_T := mm_tbk mm_t5 49 rfl rfl
def lb_hh : List (Nat × Nat × Nat × Nat) := [(0, 8, 11, 13), (0, 8, 14, 15)]
def lb_ws : List Cond := Cond.codeWith yL_back cL_back 4 (some .int) lb_hh :: mm_T
def lb_room : Room := { frames := 90, cells := 1, slots := 6, locals := 7000 }
def lb_A (ad : Nat → Nat) (qo : Nat) : Nat → Prop := fun q => mm_A sysC ad q ∨ q = qo
def lb_c (cA : Nat → ClassId) (qo : Nat) (fo : Nat → Int64) : va_W := [(qo, .inl (cA 2, 1, .inr (.inl fo)))]
def lb_Q (D : va_G) (cA : Nat → ClassId) (ad : Nat → Nat) (qo : Nat) (q : Int32 × Int64 × mm_M) : Array Value → State → Outcome → State → Prop := va_Qi (S := Nat → Int64) (fun r fo => r = q.1 ∧ (q.1 = 0 → fo 0 = q.2.1)) (fun fo t => va_P D mm_cl (mm_W sysC cA ad q.2.2) t.heap ∧ va_P D mm_cl (lb_c cA qo fo) t.heap) (lb_A ad qo)
theorem wk_split {D : va_G} {cl : List vw_C} {w : va_W} {x y : Nat × va_E} {H : Heap} (h : va_P D cl ((w ++ [x]).set w.length y) H) : va_P D cl w H ∧ va_P D cl [y] H := by
  have e : (w ++ [x]).set w.length y = w ++ [y] := by
    rw [List.set_append_right _ _ (Nat.le_refl _)]
    simp
  rw [e] at h
  refine ⟨fun k q hk => h k q ?_, fun k q hk => h (w.length + k) q ?_⟩
  · rw [List.getElem?_append_left (List.getElem?_eq_some_iff.mp hk).1]
    exact hk
  · rw [List.getElem?_append_right (Nat.le_add_right _ _), Nat.add_sub_cancel_left]
    exact hk
theorem wk_one {A : Nat → Prop} {x : Nat × va_E} (h : A x.1) : va_D A [x] := ⟨fun i j p q hi hj _ => by
    have h1 := (List.getElem?_eq_some_iff.mp hi).1
    have h2 := (List.getElem?_eq_some_iff.mp hj).1
    simp at h1 h2
    omega, fun k q hk => by
    have h1 := (List.getElem?_eq_some_iff.mp hk).1
    simp at h1
    subst h1
    cases hk
    exact h⟩
set_option maxHeartbeats 4000000 in
theorem lb_back (l : Launch) (hlt : l.stackTraces = false) (D : va_G) (cA : Nat → ClassId) (ad : Nat → Nat) (hi : mm_inj sysC ad) (qo : Nat) (hqo : ¬ mm_A sysC ad qo) (fo : Nat → Int64) (a : Int32) (M : mm_M) (q : Int32 × Int64 × mm_M) (hq : b_back a M = some q) (sa1 sa2 : Nat) :
    Met l yL_back lb_ws lb_room (va_Pc [.ref (ad 0), .int a, .ref qo] (fun U => va_P D mm_cl (mm_W sysC cA ad M) U.heap ∧ va_P D mm_cl (lb_c cA qo fo) U.heap ∧ va_K D mm_cl (mm_tys cA) U ∧ mm_nw U ∧ xK sa1 sa2 U ∧ va_Nc xE2 xE1 U ∧ xZ (lb_A ad qo) U U.heap)) (lb_Q D cA ad qo q) 1 6 (lb_A ad qo) := by
  refine va_MetW (cc := cL_back) (maxL := 4) (ret := some .int) (hh := lb_hh) (by decide) rfl ?_
  intro p e s m args below meth c s₁ B hml hv
  obtain ⟨rfl, hP, hPo, hK, hN, hxK, hNc, hxZ⟩ := hv
  have hx := B.exec
  have hb := B.bytes
  have hr := B.returns
  have hts0 := atoms_spec (ws := lb_ws) B.pre
  have hts : ∀ w ∈ mm_T, w.before [Value.ref (ad 0), .int a, .ref qo].toArray s = true := fun w hw => hts0 w (List.mem_cons_of_mem _ hw)
  have htab : c.exceptionTable.toList = tableOf lb_hh := vx_table (x := yL_back) B (hts0 _ List.mem_cons_self)
  have hown : s.vm.findClass RL = some m.cls := findClass_of_methodNamed B.named
  have hlocks := B.notSynchronized
  have hS : va_S (lb_A ad qo) s.heap s.heap [] := va_S.rf
  have hl := lv_entry ([.ref (ad 0), .int a, .ref qo]) (n := 4) (Nat.le_of_ble_eq_true rfl)
  rw [lg_entry_eq]
  generalize (lg_sl ([.ref (ad 0), .int a, .ref qo]) ++ List.replicate (4 - (lg_sl ([.ref (ad 0), .int a, .ref qo])).length) Slot.unset).toArray = ls at hl ⊢
  have hl : lv_has ls 4 [(0, .ref (ad 0)), (1, .int a), (2, .ref qo)] := hl
  refine lv_aload_n hx hb dK_0 rfl (lv_at hl 2 rfl) ?_
  refine lv_iconst (v := 0) hx hb dK_1 (by decide) ?_
  refine lv_aload_n hx hb dK_2 rfl (lv_at hl 0 rfl) ?_
  refine lv_iload_n hx hb dK_3 rfl (lv_at hl 1 rfl) ?_
  obtain ⟨⟨hz1, hz2, hz3, hz4⟩, hz5, hz6, T0, N0, hz7⟩ := cv_X11_back
  have cb : CallB (headSpec lb_ws lb_room).room s [Value.ref (ad 0), .int a, .ref qo].toArray RL 7 yX11_back cX11_back 2 (some .long) (mm_ws Y_X11_back) xb_room 1 6 1 :=
    callB_of 1 hts (mm_goodIn (Z := Y_X11_back) hz2) rfl rfl rfl (hts _ hz1) (hts _ lk_L_7) hz3 ⟨by decide, by decide⟩
  have hAsub : ∀ z, mm_A sysC ad z → lb_A ad qo z := fun _ h => Or.inl h
  have run := vx_runV (p := p) (l := l) (e := e) (R := (headSpec lb_ws lb_room).room) (s := s) (m := m) (args := [Value.ref (ad 0), .int a, .ref qo].toArray) (below := below) (meth := meth) (c := c) (H := s.heap) (locs := []) (cells := 0) (slots := 0) (g := F0 m 4 ls [.int a, .ref (ad 0), .int 0, .ref qo]) (rest := [.int 0, .ref qo]) (As := [.int a]) (b := ad 0) (C := RX11) (own := RL) (Ts := mm_T) (cc := cL_back) (nL := 4)
    ⟨hx, hb, hml, hown, hts⟩ (xb_back l hlt D cA ad hi a M q hq sa1 sa2) ⟨cb, hts _ hz5, hts _ hz6⟩
    ⟨fun z U g mk h => ⟨h.1, h.2.1, va_K.moved (u := U) (U := U.calling g mk z) (Vm.Alike.refl U.vm) h.2.2.1, va_Nw.same rfl rfl h.2.2.2.1, xK.same (u := U) (U := U.calling g mk z) rfl h.2.2.2.2.1, h.2.2.2.2.2.moved (Vm.Alike.refl U.vm)⟩, va_recv hK hP hz7 (wk_he ob_C_0), fun U hU hW => ⟨rfl, by rw [hU]; exact hP, va_K.moved hW.alike hK, va_Nw.warmM hW hN, hxK.warm hW, by rw [hU]; exact (hxZ.narrow hAsub).moved hW.alike⟩⟩
    rfl rfl hl.1 rfl (lv_room (Nat.le_of_ble_eq_true rfl)) dK_4 ⟨by decide, by decide⟩
  refine vx_calll run hS (fun z _ h => hAsub z h) hAsub (fun z _ h => hAsub z h) ?_ ?_
  · intro E ce q9 u t H1 locs1 ht hvm _ hBX hz hk hS1 hce hcv hcl
    obtain ⟨hE, hPt⟩ := hBX
    rw [ht] at hPt
    have hPo1 : va_P D mm_cl (lb_c cA qo fo) H1 := hPo.kept (fun k z hkz => by
      have hlt' := (hPo k z hkz).lt
      have h1 := (List.getElem?_eq_some_iff.mp hkz).1
      simp [lb_c] at h1
      subst h1
      cases hkz
      exact hk qo hlt' hqo)
    rcases hE with ⟨hE1, rfl⟩ | ⟨hE1, rfl⟩
    · refine vx_catch (own := RL) (name := xE1) hown [] ⟨0, 8, 11, 13⟩ [⟨0, 8, 14, 15⟩] htab (fun z hz => by cases hz) (by decide) (by decide) (hts _ cl_L_13) (hxK.1.use _ (by decide)) hce hcv hcl ?_
      refine lv_astore_n (lv' := [(3, .ref q9), (0, .ref (ad 0)), (1, .int a), (2, .ref qo)]) hx hb dK_11 rfl hl (by decide) rfl (fun ls hl => ?_)
      refine lv_iconst (v := 1) hx hb dK_12 (by decide) ?_
      exact W.iret (v := 1) hx hb hr (fun t ht hW => ⟨⟨1, fo, rfl, ⟨hE1.symm, fun h => by rw [hE1] at h; exact absurd h (by decide)⟩, by rw [ht]; exact hPt, by rw [ht]; exact hPo1⟩, hS1.F ht⟩) hS1.2.2 dK_13
    · refine vx_catch (own := RL) (name := xE2) hown [⟨0, 8, 11, 13⟩] ⟨0, 8, 14, 15⟩ [] htab (fun z hz => by
        rcases List.mem_singleton.mp hz with rfl
        exact Or.inr ⟨by decide, xE1, hts _ cl_L_13, hNc⟩) (by decide) (by decide) (hts _ cl_L_15) (hxK.1.use _ (by decide)) hce hcv hcl ?_
      refine lv_astore_n (lv' := [(3, .ref q9), (0, .ref (ad 0)), (1, .int a), (2, .ref qo)]) hx hb dK_14 rfl hl (by decide) rfl (fun ls hl => ?_)
      refine lv_iconst (v := 2) hx hb dK_15 (by decide) ?_
      exact W.iret (v := 2) hx hb hr (fun t ht hW => ⟨⟨2, fo, rfl, ⟨hE1.symm, fun h => by rw [hE1] at h; exact absurd h (by decide)⟩, by rw [ht]; exact hPt, by rw [ht]; exact hPo1⟩, hS1.F ht⟩) hS1.2.2 dK_16
  · intro r u t H1 locs1 ht hvm hpost hPt hz hk hS1
    obtain ⟨hq0, rfl⟩ := hpost
    have hPt : va_P D mm_cl (mm_W sysC cA ad q.2.2) t.heap := hPt
    rw [ht] at hPt
    have hPo1 : va_P D mm_cl (lb_c cA qo fo) H1 := hPo.kept (fun k z hkz => by
      have hlt' := (hPo k z hkz).lt
      have h1 := (List.getElem?_eq_some_iff.mp hkz).1
      simp [lb_c] at h1
      subst h1
      cases hkz
      exact hk qo hlt' hqo)
    have hD : va_D (lb_A ad qo) (mm_W sysC cA ad q.2.2 ++ lb_c cA qo fo) := va_D.app ((mm_D hi).weaken (fun _ _ _ h => Or.inl h)) (wk_one (Or.inr rfl)) (fun i j x y hx1 hy1 hxy => by
      obtain ⟨h1, rfl⟩ := mm_W_of hx1
      have h2 := (List.getElem?_eq_some_iff.mp hy1).1
      simp [lb_c] at h2
      subst h2
      cases hy1
      exact hqo ⟨i, h1, hxy.symm⟩)
    have hlen : (mm_W sysC cA ad q.2.2).length = 75 := by simp [mm_W, sysC]
    have hat : (mm_W sysC cA ad q.2.2 ++ lb_c cA qo fo)[75]? = some (qo, .inl (cA 2, 1, .inr (.inl fo))) := by
      rw [← hlen, List.getElem?_append_right (Nat.le_refl _), Nat.sub_self]
      rfl
    refine va_last (i := 0) hx hb hK (hPt.app hPo1) hD hS1 75 2 hat rfl (by unfold vp_in; decide) dK_7 (fun H2 locs2 hP2 hD2 hS2 => ?_)
    rw [← hlen] at hP2
    obtain ⟨hPc, hPo2⟩ := wk_split hP2
    refine lv_goto (tgt := 17) hx hb dK_8 (by decide) ?_
    refine lv_iconst (v := 0) hx hb dK_17 (by decide) ?_
    exact W.iret (v := 0) hx hb hr (fun t ht hW => ⟨⟨0, vp_updL fo (0 : Int32).toNatClampNeg q.2.1, rfl, ⟨hq0.symm, fun _ => rfl⟩, by rw [ht]; exact hPc, by rw [ht]; exact hPo2⟩, hS2.F ht⟩) hS2.2.2 dK_18


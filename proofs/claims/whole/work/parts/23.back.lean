def Y_X11_back : mm_Y := (yX11_back, cX11_back, 2, (some .long))
theorem dB_0 : decode cX11_back 0 = .ok (.aload_n 0, 1) := by decide +kernel
theorem dB_1 : decode cX11_back 1 = .ok (.getfield 39, 3) := by decide +kernel
theorem dB_4 : decode cX11_back 4 = .ok (.getfield 191, 3) := by decide +kernel
theorem dB_7 : decode cX11_back 7 = .ok (.ifCond .ne 13, 3) := by decide +kernel
theorem dB_10 : decode cX11_back 10 = .ok (.new 213, 3) := by decide +kernel
theorem dB_13 : decode cX11_back 13 = .ok (.dup, 1) := by decide +kernel
theorem dB_14 : decode cX11_back 14 = .ok (.ldc 215, 2) := by decide +kernel
theorem dB_16 : decode cX11_back 16 = .ok (.invokespecial 217, 3) := by decide +kernel
theorem dB_19 : decode cX11_back 19 = .ok (.athrow, 1) := by decide +kernel
theorem dB_20 : decode cX11_back 20 = .ok (.iload_n 1, 1) := by decide +kernel
theorem dB_21 : decode cX11_back 21 = .ok (.ifCond .lt 8, 3) := by decide +kernel
theorem dB_24 : decode cX11_back 24 = .ok (.iload_n 1, 1) := by decide +kernel
theorem dB_25 : decode cX11_back 25 = .ok (.iconst 3, 1) := by decide +kernel
theorem dB_26 : decode cX11_back 26 = .ok (.if_icmp .le 13, 3) := by decide +kernel
theorem dB_29 : decode cX11_back 29 = .ok (.new 220, 3) := by decide +kernel
theorem dB_32 : decode cX11_back 32 = .ok (.dup, 1) := by decide +kernel
theorem dB_33 : decode cX11_back 33 = .ok (.ldc 222, 2) := by decide +kernel
theorem dB_35 : decode cX11_back 35 = .ok (.invokespecial 224, 3) := by decide +kernel
theorem dB_38 : decode cX11_back 38 = .ok (.athrow, 1) := by decide +kernel
theorem dB_39 : decode cX11_back 39 = .ok (.aload_n 0, 1) := by decide +kernel
theorem dB_40 : decode cX11_back 40 = .ok (.iload_n 1, 1) := by decide +kernel
theorem dB_41 : decode cX11_back 41 = .ok (.iconst 2, 1) := by decide +kernel
theorem dB_42 : decode cX11_back 42 = .ok (.if_icmp .lt 7, 3) := by decide +kernel
theorem dB_45 : decode cX11_back 45 = .ok (.iconst 1, 1) := by decide +kernel
theorem dB_46 : decode cX11_back 46 = .ok (.goto 4, 3) := by decide +kernel
theorem dB_49 : decode cX11_back 49 = .ok (.iconst 0, 1) := by decide +kernel
theorem dB_50 : decode cX11_back 50 = .ok (.invokevirtual 225, 3) := by decide +kernel
theorem dB_53 : decode cX11_back 53 = .ok (.iload_n 1, 1) := by decide +kernel
theorem dB_54 : decode cX11_back 54 = .ok (.ifCond .eq 8, 3) := by decide +kernel
theorem dB_57 : decode cX11_back 57 = .ok (.iload_n 1, 1) := by decide +kernel
theorem dB_58 : decode cX11_back 58 = .ok (.iconst 2, 1) := by decide +kernel
theorem dB_59 : decode cX11_back 59 = .ok (.if_icmp .ne 13, 3) := by decide +kernel
theorem dB_62 : decode cX11_back 62 = .ok (.aload_n 0, 1) := by decide +kernel
theorem dB_63 : decode cX11_back 63 = .ok (.getfield 49, 3) := by decide +kernel
theorem dB_66 : decode cX11_back 66 = .ok (.getfield 206, 3) := by decide +kernel
theorem dB_69 : decode cX11_back 69 = .ok (.goto 10, 3) := by decide +kernel
theorem dB_72 : decode cX11_back 72 = .ok (.aload_n 0, 1) := by decide +kernel
theorem dB_73 : decode cX11_back 73 = .ok (.getfield 49, 3) := by decide +kernel
theorem dB_76 : decode cX11_back 76 = .ok (.getfield 210, 3) := by decide +kernel
theorem dB_79 : decode cX11_back 79 = .ok (.lreturn, 1) := by decide +kernel
set_option maxRecDepth 20000 in
theorem lk_X11_225 : Cond.methodLink RX11 225 yX11_weighBack ∈ mm_T := mm_tbk mm_t5 137 rfl rfl
set_option maxRecDepth 20000 in
theorem cl_X11_213 : Cond.classLink RX11 213 "java/lang/IllegalStateException" ∈ mm_T := mm_tbk mm_t5 54 rfl rfl
set_option maxRecDepth 20000 in
theorem cl_X11_220 : Cond.classLink RX11 220 "java/lang/IllegalArgumentException" ∈ mm_T := mm_tbk mm_t5 121 rfl rfl
set_option maxRecDepth 20000 in
theorem it_ISE : Cond.initialized "java/lang/IllegalStateException" ∈ mm_T := mm_tbk mm_t1 18 rfl rfl
set_option maxRecDepth 20000 in
theorem it_IAE : Cond.initialized "java/lang/IllegalArgumentException" ∈ mm_T := mm_tbk mm_t1 19 rfl rfl
set_option maxRecDepth 20000 in
theorem cv_X11_back : mm_cv Y_X11_back 11 1 := ⟨⟨mm_tbk mm_t1 1 rfl rfl, mm_tbk mm_t5 53 rfl rfl, ⟨by decide +kernel, by decide +kernel, by decide +kernel⟩, Nat.le_of_ble_eq_true rfl⟩, mm_tbk mm_t5 51 rfl rfl, mm_tbk mm_t5 52 rfl rfl, TX11, 18, rfl⟩
section WK
variable {p : Program} {l : Launch} {e : Env} {R : Room} {s : State} {m : MethodId} {args : Array Value} {below : List Frame} {meth : Method} {c : Code} {H : Heap} {locs : List Loc} {cells slots : Nat} {Q : State → Prop}
variable {cc : ByteArray} {own : String} {pc idx nL : Nat} {ls : Array Slot} {rest : List Value} {S : mm_S} {M : mm_M} {D : va_G} {cA : Nat → ClassId} {ad : Nat → Nat}
theorem wk_he {o ci : Nat} {fs : List (Nat × Nat)} (ho : mm_ob S o ci fs) : (mm_W S cA ad M)[o]? = some (ad o, .inr (ci, mm_fs ad M o fs)) := by
  rw [mm_W_at ho.1]
  unfold mm_cell
  rw [ho.2]
theorem wk_geti {o ci k t : Nat} {fs : List (Nat × Nat)} {ty : FieldType} {fb : Bool} (hx : p.tables.exec = Jvm.exec) (hb : c.code = cc) (hts : ∀ w ∈ mm_T, w.before args s = true) (hown : s.vm.findClass own = some m.cls) (hK : va_K D mm_cl (mm_tys cA) s) (hP : va_P D mm_cl (mm_W S cA ad M) H) (hf : mm_fl own idx ci k ty fb) (ho : mm_ob S o ci fs) (hk : fs[k]? = some (0, t)) (hd : decode cc pc = .ok (.getfield idx, 3))
    (kk : W p l e R s m args below meth c H locs cells slots Q (F0 m (pc + 3) ls (.int (mI M o k) :: rest))) : W p l e R s m args below meth c H locs cells slots Q (F0 m pc ls (.ref (ad o) :: rest)) := by
  obtain ⟨C, T, N, ty0, hcl, hkN, hlk, -, -⟩ := hf
  exact va_get (D := D) (ci := ci) (v := .int (mI M o k)) hx hb hts hcl.2.1 hown hK hP o (wk_he ho) hcl.1 k hkN (hts _ hlk) (fun _ h9 => h9) (mm_fs_at hk) hd kk
theorem wk_getl {o ci k t : Nat} {fs : List (Nat × Nat)} {ty : FieldType} {fb : Bool} (hx : p.tables.exec = Jvm.exec) (hb : c.code = cc) (hts : ∀ w ∈ mm_T, w.before args s = true) (hown : s.vm.findClass own = some m.cls) (hK : va_K D mm_cl (mm_tys cA) s) (hP : va_P D mm_cl (mm_W S cA ad M) H) (hf : mm_fl own idx ci k ty fb) (ho : mm_ob S o ci fs) (hk : fs[k]? = some (1, t)) (hd : decode cc pc = .ok (.getfield idx, 3))
    (kk : W p l e R s m args below meth c H locs cells slots Q (F0 m (pc + 3) ls (.long (mL M o k) :: rest))) : W p l e R s m args below meth c H locs cells slots Q (F0 m pc ls (.ref (ad o) :: rest)) := by
  obtain ⟨C, T, N, ty0, hcl, hkN, hlk, -, -⟩ := hf
  exact va_get (D := D) (ci := ci) (v := .long (mL M o k)) hx hb hts hcl.2.1 hown hK hP o (wk_he ho) hcl.1 k hkN (hts _ hlk) (fun _ h9 => h9) (mm_fs_at hk) hd kk
theorem wk_geta {o ci k t : Nat} {fs : List (Nat × Nat)} {ty : FieldType} {fb : Bool} (hx : p.tables.exec = Jvm.exec) (hb : c.code = cc) (hts : ∀ w ∈ mm_T, w.before args s = true) (hown : s.vm.findClass own = some m.cls) (hK : va_K D mm_cl (mm_tys cA) s) (hP : va_P D mm_cl (mm_W S cA ad M) H) (hf : mm_fl own idx ci k ty fb) (ho : mm_ob S o ci fs) (hk : fs[k]? = some (2, t)) (hd : decode cc pc = .ok (.getfield idx, 3))
    (kk : W p l e R s m args below meth c H locs cells slots Q (F0 m (pc + 3) ls (.ref (ad t) :: rest))) : W p l e R s m args below meth c H locs cells slots Q (F0 m pc ls (.ref (ad o) :: rest)) := by
  obtain ⟨C, T, N, ty0, hcl, hkN, hlk, -, -⟩ := hf
  exact va_get (D := D) (ci := ci) (v := .ref (ad t)) hx hb hts hcl.2.1 hown hK hP o (wk_he ho) hcl.1 k hkN (hts _ hlk) (fun _ h9 => h9) (mm_fs_at hk) hd kk
/-- a call of a method whose contract is known, from any method: the system's cells as the contract says, all others unchanged -/
theorem wk_callV {β : Type} {Z : mm_Y} {d' o ci n : Nat} {fs : List (Nat × Nat)} {as : List Value} {fin : β → Option Value × mm_M} {F : Option β} {r : β} {A0 : Nat → Prop} {H0 : Heap} {stk : List Value}
    (hx : p.tables.exec = Jvm.exec) (hb : c.code = cc) (hml : c.maxLocals = nL) (hts : ∀ w ∈ mm_T, w.before args s = true) (hown : s.vm.findClass own = some m.cls) (hK : va_K D mm_cl (mm_tys cA) s) (hN : mm_nw s) (hi : mm_inj S ad)
    (hl : Cond.methodLink own idx Z.1 ∈ mm_T) (hz : mm_cv Z ci n) (ho : mm_ob S o ci fs) (hn : as.length = n) (hfr : d' + 1 ≤ R.frames) (hlo : 64 + 64 * d' ≤ R.locals) (hst : (rest.map fun v => v.category).sum ≤ 8) (hcs : cells ≤ R.cells ∧ slots ≤ R.slots)
    (hM : Ct S Z d' (.ref o :: as) M fin F) (hF : F = some r) (hP : va_P D mm_cl (mm_W S cA ad M) H) (hS : va_S A0 H0 H locs) (hA : ∀ q, mm_A S ad q → A0 q) (hsz : ls.size = nL) (hd : decode cc pc = .ok (.invokevirtual idx, 3)) (hstk : stk = (mm_cS ad as).reverse ++ .ref (ad o) :: rest)
    (kk : ∀ (H1 : Heap) (locs1 : List Loc), va_P D mm_cl (mm_W S cA ad (fin r).2) H1 → H.size ≤ H1.size → (∀ q : Nat, q < H.size → ¬ mm_A S ad q → H1[q]? = H[q]?) → va_S A0 H0 H1 locs1 → W p l e R s m args below meth c H1 locs1 cells slots Q (F0 m (pc + 3) ls (((fin r).1.map (mm_conc ad)).toList ++ rest))) :
    W p l e R s m args below meth c H locs cells slots Q (F0 m pc ls stk) := by
  subst hstk
  obtain ⟨⟨hz1, hz2, hz3, hz4⟩, hz5, hz6, T, N, hz7⟩ := hz
  have cb : CallB R s args own idx Z.1 Z.2.1 Z.2.2.1 Z.2.2.2 (mm_ws Z) (mm_room d') 0 0 n :=
    callB_of n hts (mm_goodIn hz2) rfl rfl rfl (hts _ hz1) (hts _ hl) hz3 ⟨hfr, by show 8 + (Z.2.2.1 + 11) + 64 * d' ≤ R.locals; omega⟩
  have run := va_runV (p := p) (l := l) (e := e) (R := R) (s := s) (m := m) (args := args) (below := below) (meth := meth) (c := c) (H := H) (locs := locs) (cells := cells) (slots := slots) (g := F0 m pc ls ((mm_cS ad as).reverse ++ .ref (ad o) :: rest)) (rest := rest) (As := mm_cS ad as) (b := ad o) (C := Z.1.cls) (own := own) (Ts := mm_T) (cc := cc) (nL := nL)
    ⟨hx, hb, hml, hown, hts⟩ (hM r hF l D cA ad hi) ⟨cb, hts _ hz5, hts _ hz6⟩
    ⟨fun a U g mk q => ⟨q.1, q.2.1, va_K.moved (u := U) (U := U.calling g mk a) (Vm.Alike.refl U.vm) q.2.2.1, va_Nw.same rfl rfl q.2.2.2⟩, va_recv hK hP hz7 (wk_he ho), fun U hU hW => ⟨rfl, by rw [hU]; exact hP, va_K.moved hW.alike hK, va_Nw.warmM hW hN⟩⟩
    rfl (by rw [← hn]; simp [mm_cS]) hsz rfl (lv_room hst) hd ⟨hcs.1, hcs.2⟩
  intro T hT X
  obtain ⟨v, st₀, t, T', Lc, h0, X', hLc, e1, e2, ⟨hv, hPt, hF3⟩, go⟩ := run T hT X
  have hv : v = (fin r).1.map (mm_conc ad) := Outcome.returned.inj hv
  subst hv
  have hF1 := hF3.1
  have hF2 := hF3.2
  rw [h0] at hF1 hF2
  rw [← e1] at hF1 hF2 hPt
  obtain ⟨t2, a1, b1⟩ := kk T'.heap (locs ++ Lc) hPt hF1 hF2 (mm_S_after hS hF1 (fun q h1 h2 => hF2 q h1 (fun h3 => h2 (hA q h3))) (fun q hq => hA _ (hLc q hq))) T' rfl X'
  exact ⟨t2, go t2 a1, b1⟩
end WK
/-! what a throw asks of the tables, beside mm_T -/
def xE1 : String := "java/lang/IllegalStateException"
def xE2 : String := "java/lang/IllegalArgumentException"
def xNs : List String := ["java/lang/RuntimeException", "java/lang/Exception"]
def xB : List Cond := [.castable xE1 xE1, .castable xE2 xE2, .declares ⟨"java/lang/RuntimeException", "<init>", "()V"⟩, .declares ⟨"java/lang/RuntimeException", "<init>", "(Ljava/lang/String;)V"⟩, .declares ⟨"java/lang/Exception", "<init>", "()V"⟩, .declares ⟨"java/lang/Exception", "<init>", "(Ljava/lang/String;)V"⟩, .declares ⟨"java/lang/Throwable", "<init>", "()V"⟩, .declares ⟨"java/lang/Throwable", "<init>", "(Ljava/lang/String;)V"⟩]
theorem xw1 : ∀ w ∈ (vx_atS RX11 217 xE1 xNs).filter (fun w => !goodWord w), w ∈ xB := by decide +kernel
theorem xw2 : ∀ w ∈ (vx_atS RX11 224 xE2 xNs).filter (fun w => !goodWord w), w ∈ xB := by decide +kernel
theorem xg1 : ((vx_atS RX11 217 xE1 xNs).filter goodWord).all (fun w => decide (w ∈ lw_tbl)) = true := by decide +kernel
theorem xg2 : ((vx_atS RX11 224 xE2 xNs).filter goodWord).all (fun w => decide (w ∈ lw_tbl)) = true := by decide +kernel
theorem xg1T : ∀ w ∈ (vx_atS RX11 217 xE1 xNs).filter goodWord, w ∈ mm_T := fun w hw => List.mem_filter.mpr ⟨of_decide_eq_true (List.all_eq_true.mp xg1 w hw), (List.mem_filter.mp hw).2⟩
theorem xg2T : ∀ w ∈ (vx_atS RX11 224 xE2 xNs).filter goodWord, w ∈ mm_T := fun w hw => List.mem_filter.mpr ⟨of_decide_eq_true (List.all_eq_true.mp xg2 w hw), (List.mem_filter.mp hw).2⟩
theorem xo1 : ∀ w ∈ Cond.classLink RX11 213 xE1 :: Cond.initialized xE1 :: vx_atS RX11 217 xE1 xNs, vx_ot w = true := by decide +kernel
theorem xo2 : ∀ w ∈ Cond.classLink RX11 220 xE2 :: Cond.initialized xE2 :: vx_atS RX11 224 xE2 xNs, vx_ot w = true := by decide +kernel
def xw (U : State) : Prop := ∀ w ∈ xB, va_Nw w U
theorem xw.warm {s U : State} (hW : s.WarmedH U.vm) (h : xw s) : xw U := by
  intro w hw
  have h0 := h w hw
  simp only [xB, List.mem_cons, List.not_mem_nil, or_false] at hw
  rcases hw with rfl | rfl | rfl | rfl | rfl | rfl | rfl | rfl
  · exact va_Nw.warmC hW h0
  · exact va_Nw.warmC hW h0
  · exact va_Nw.warmD hW h0
  · exact va_Nw.warmD hW h0
  · exact va_Nw.warmD hW h0
  · exact va_Nw.warmD hW h0
  · exact va_Nw.warmD hW h0
  · exact va_Nw.warmD hW h0
theorem xB_ot : ∀ w ∈ xB, w.onTables = true := by decide +kernel
theorem xw.same {u U : State} (h : u.vm = U.vm) (hZ : xw u) : xw U := fun w hw => va_Nw.same (xB_ot w hw) h (hZ w hw)
theorem xw.use {U : State} {A : Array Value} (h : xw U) : ∀ w ∈ xB, w.before A U = true := fun w hw => va_Nw.use (xB_ot w hw) (h w hw)
def xZ (A : Nat → Prop) (U : State) (H : Heap) : Prop := vx_Zq Bundle.tN "UNASSIGNED_STACK" Bundle.steD A U H ∧ vx_Zq Bundle.tN "SUPPRESSED_SENTINEL" Bundle.listD A U H
def xK (sa1 sa2 : Nat) (U : State) : Prop := xw U ∧ vk_R RX11 215 "nothing was drawn" sa1 U ∧ vk_R RX11 222 "what is 0 .. 3" sa2 U
theorem xK.warm {sa1 sa2 : Nat} {s U : State} (hW : s.WarmedH U.vm) (h : xK sa1 sa2 s) : xK sa1 sa2 U := ⟨h.1.warm hW, h.2.1.warm hW, h.2.2.warm hW⟩
theorem xK.same {sa1 sa2 : Nat} {u U : State} (hv : u.vm = U.vm) (h : xK sa1 sa2 u) : xK sa1 sa2 U := ⟨h.1.same hv, h.2.1.same hv.symm, h.2.2.same hv.symm⟩
theorem xZ.moved {A : Nat → Prop} {u U : State} {H : Heap} (hvm : u.vm.Alike U.vm) (h : xZ A u H) : xZ A U H := ⟨h.1.moved hvm, h.2.moved hvm⟩
theorem xZ.kept {A : Nat → Prop} {U : State} {H H1 : Heap} (h : xZ A U H) (hq : ∀ a : Nat, a < H.size → ¬ A a → H1[a]? = H[a]?) : xZ A U H1 := ⟨h.1.kept hq, h.2.kept hq⟩
theorem xZ.narrow {A B : Nat → Prop} {U : State} {H : Heap} (h : xZ A U H) (hAB : ∀ q, B q → A q) : xZ B U H := ⟨h.1.narrow hAB, h.2.narrow hAB⟩
/-! what back answers: 0 and the number, 1 (nothing was drawn), 2 (another what) -/
def b_back (a : Int32) (M : mm_M) : Option (Int32 × Int64 × mm_M) :=
  if mI M 6 6 = 0 then some (1, 0, M)
  else if a < 0 then some (2, 0, M)
  else if a ≤ 3 then
    mm_bv (f_X11_weighBack (if a < 2 then 0 else 1) M) (fun M' => some (0, if a = 0 then mL M' 8 0 else if a = 2 then mL M' 8 0 else mL M' 8 1, M'))
  else some (2, 0, M)
def xb_room : Room := { frames := 80, cells := 1, slots := 6, locals := 6000 }
def xb_Q (D : va_G) (cA : Nat → ClassId) (ad : Nat → Nat) (q : Int32 × Int64 × mm_M) : Array Value → State → Outcome → State → Prop := va_Ql (S := Unit) (fun v _ => q.1 = 0 ∧ v = q.2.1) (fun _ t => va_P D mm_cl (mm_W sysC cA ad q.2.2) t.heap) (mm_A sysC ad)
def xb_X (D : va_G) (cA : Nat → ClassId) (ad : Nat → Nat) (q : Int32 × Int64 × mm_M) : String → State → State → Prop := vx_X (S := Unit) (fun _ => True) (fun E _ t => ((q.1 = 1 ∧ E = xE1) ∨ (q.1 = 2 ∧ E = xE2)) ∧ va_P D mm_cl (mm_W sysC cA ad q.2.2) t.heap) (mm_A sysC ad)
theorem wk_keep {S : mm_S} {cA : Nat → ClassId} {ad : Nat → Nat} {M : mm_M} {D : va_G} {H H1 : Heap} (hP : va_P D mm_cl (mm_W S cA ad M) H) (h : ∀ q : Nat, q < H.size → (∃ k, k < S.2 ∧ q = ad k) → H1[q]? = H[q]?) : va_P D mm_cl (mm_W S cA ad M) H1 :=
  hP.kept (fun k q hk => by
    have hlt := (hP k q hk).lt
    obtain ⟨h1, rfl⟩ := mm_W_of hk
    exact h _ hlt ⟨k, h1, rfl⟩)
set_option maxHeartbeats 4000000 in
theorem xb_back (l : Launch) (hlt : l.stackTraces = false) (D : va_G) (cA : Nat → ClassId) (ad : Nat → Nat) (hi : mm_inj sysC ad) (a : Int32) (M : mm_M) (q : Int32 × Int64 × mm_M) (hq : b_back a M = some q) (sa1 sa2 : Nat) :
    vx_Met l yX11_back (mm_ws Y_X11_back) xb_room (va_Pc [.ref (ad 0), .int a] (fun U => va_P D mm_cl (mm_W sysC cA ad M) U.heap ∧ va_K D mm_cl (mm_tys cA) U ∧ mm_nw U ∧ xK sa1 sa2 U ∧ xZ (mm_A sysC ad) U U.heap)) (xb_Q D cA ad q) (xb_X D cA ad q) 1 6 (mm_A sysC ad) := by
  refine vx_ofW (cc := cX11_back) (maxL := 2) (ret := some .long) (by decide) rfl ?_
  intro p e s m args below meth c s₁ B hml htab hv
  obtain ⟨rfl, hP, hK, hN, hxK, hxZ⟩ := hv
  have hx := B.exec
  have hb := B.bytes
  have hr := B.returns
  have hts0 := atoms_spec (ws := mm_ws Y_X11_back) B.pre
  have hts : ∀ w ∈ mm_T, w.before [Value.ref (ad 0), .int a].toArray s = true := fun w hw => hts0 w (List.mem_cons_of_mem _ hw)
  have hown : s.vm.findClass RX11 = some m.cls := findClass_of_methodNamed B.named
  have hlocks := B.notSynchronized
  have hS : va_S (mm_A sysC ad) s.heap s.heap [] := va_S.rf
  have hl := lv_entry ([.ref (ad 0), .int a]) (n := 2) (Nat.le_of_ble_eq_true rfl)
  rw [lg_entry_eq]
  generalize (lg_sl ([.ref (ad 0), .int a]) ++ List.replicate (2 - (lg_sl ([.ref (ad 0), .int a])).length) Slot.unset).toArray = ls at hl ⊢
  have hl : lv_has ls 2 [(0, .ref (ad 0)), (1, .int a)] := hl
  have hout : ∀ pc : Nat, ∀ x ∈ c.exceptionTable.toList, covers x pc = false := fun pc x hx => (htab x hx).elim
  have hthrow1 : q.1 = 1 → q.2.2 = M → W p l e (headSpec (mm_ws Y_X11_back) xb_room).room s m [Value.ref (ad 0), .int a].toArray below meth c s.heap [] 0 0 (vx_MQ below (xb_Q D cA ad q) (xb_X D cA ad q) [Value.ref (ad 0), .int a].toArray s 1 6 (mm_A sysC ad)) (F0 m 10 ls []) := by
    intro h1 h2
    refine vx_throwS (own := RX11) (cls := xE1) (text := "nothing was drawn") (names := xNs) (ik := 213) (is := 215) (ic := 217) (sa := sa1) (A := mm_A sysC ad) hx hb hlt hown (by decide +kernel) (by decide +kernel) (hts _ cl_X11_213) (hts _ it_ISE) hxK.2.1 (vx_hat (fun w hw => hts _ (xg1T w hw)) xw1 hxK.1.use) xo1 hxZ.1 hxZ.2 hS (by rw [hml]; exact hl.1) dB_10 dB_13 dB_14 dB_16 dB_19 (hout _) (by decide) (by decide) (by decide) (by decide) hlocks ?_ (fun z hz => by cases hz) (by decide) (by decide)
    intro t ht hsz hkp
    refine ⟨(), trivial, ⟨Or.inl ⟨h1, rfl⟩, ?_⟩, hsz, fun z hz _ => hkp z hz⟩
    rw [h2]
    exact wk_keep hP (fun z hz _ => hkp z hz)
  have hthrow2 : q.1 = 2 → q.2.2 = M → W p l e (headSpec (mm_ws Y_X11_back) xb_room).room s m [Value.ref (ad 0), .int a].toArray below meth c s.heap [] 0 0 (vx_MQ below (xb_Q D cA ad q) (xb_X D cA ad q) [Value.ref (ad 0), .int a].toArray s 1 6 (mm_A sysC ad)) (F0 m 29 ls []) := by
    intro h1 h2
    refine vx_throwS (own := RX11) (cls := xE2) (text := "what is 0 .. 3") (names := xNs) (ik := 220) (is := 222) (ic := 224) (sa := sa2) (A := mm_A sysC ad) hx hb hlt hown (by decide +kernel) (by decide +kernel) (hts _ cl_X11_220) (hts _ it_IAE) hxK.2.2 (vx_hat (fun w hw => hts _ (xg2T w hw)) xw2 hxK.1.use) xo2 hxZ.1 hxZ.2 hS (by rw [hml]; exact hl.1) dB_29 dB_32 dB_33 dB_35 dB_38 (hout _) (by decide) (by decide) (by decide) (by decide) hlocks ?_ (fun z hz => by cases hz) (by decide) (by decide)
    intro t ht hsz hkp
    refine ⟨(), trivial, ⟨Or.inr ⟨h1, rfl⟩, ?_⟩, hsz, fun z hz _ => hkp z hz⟩
    rw [h2]
    exact wk_keep hP (fun z hz _ => hkp z hz)
  have hbody : ∀ M', f_X11_weighBack (if a < 2 then 0 else 1) M = some M' → q = (0, if a = 0 then mL M' 8 0 else if a = 2 then mL M' 8 0 else mL M' 8 1, M') → W p l e (headSpec (mm_ws Y_X11_back) xb_room).room s m [Value.ref (ad 0), .int a].toArray below meth c s.heap [] 0 0 (vx_MQ below (xb_Q D cA ad q) (xb_X D cA ad q) [Value.ref (ad 0), .int a].toArray s 1 6 (mm_A sysC ad)) (F0 m 39 ls []) := by
    intro M' hw hqq
    refine lv_aload_n hx hb dB_39 rfl (lv_at hl 0 rfl) ?_
    refine lv_iload_n hx hb dB_40 rfl (lv_at hl 1 rfl) ?_
    refine lv_iconst (v := 2) hx hb dB_41 (by decide) ?_
    have hcall : ∀ b : Int32, b = (if a < 2 then 0 else 1) → W p l e (headSpec (mm_ws Y_X11_back) xb_room).room s m [Value.ref (ad 0), .int a].toArray below meth c s.heap [] 0 0 (vx_MQ below (xb_Q D cA ad q) (xb_X D cA ad q) [Value.ref (ad 0), .int a].toArray s 1 6 (mm_A sysC ad)) (F0 m 50 ls [.int b, .ref (ad 0)]) := by
      intro b hb0
      subst hb0
      refine wk_callV (Z := Y_X11_weighBack) (as := [.int (if a < 2 then 0 else 1)]) (rest := []) (own := RX11) (A0 := mm_A sysC ad) (H0 := s.heap) hx hb hml hts hown hK hN hi lk_X11_225 cv_X11_weighBack ob_C_0 rfl (by decide) (by decide) (Nat.zero_le _) ⟨Nat.zero_le _, Nat.zero_le _⟩ (ct_X11_weighBack _ M) hw hP hS (fun _ h => h) hl.1 dB_50 rfl (fun H1 locs1 hP1 hz1 hk1 hS1 => ?_)
      have hP1 : va_P D mm_cl (mm_W sysC cA ad M') H1 := hP1
      show W p l e _ s m _ below meth c H1 locs1 0 0 _ (F0 m 53 ls [])
      have habove : q.2.1 = mL M' 8 0 → W p l e (headSpec (mm_ws Y_X11_back) xb_room).room s m [Value.ref (ad 0), .int a].toArray below meth c H1 locs1 0 0 (vx_MQ below (xb_Q D cA ad q) (xb_X D cA ad q) [Value.ref (ad 0), .int a].toArray s 1 6 (mm_A sysC ad)) (F0 m 62 ls []) := by
        intro hv
        refine lv_aload_n hx hb dB_62 rfl (lv_at hl 0 rfl) ?_
        refine wk_geta hx hb hts hown hK hP1 fl_X11_49 ob_C_0 rfl dB_63 ?_
        refine wk_getl hx hb hts hown hK hP1 fl_X11_206 ob_C_8 rfl dB_66 ?_
        refine lv_goto (tgt := 79) hx hb dB_69 (by decide) ?_
        refine W.widen (k := 1) (n := 6) (by decide) (by decide) ?_
        refine vx_ret ?_
        exact W.lret hx hb hr (fun t ht hW => ⟨⟨mL M' 8 0, (), rfl, ⟨by rw [hqq], hv.symm⟩, by show va_P D mm_cl (mm_W sysC cA ad q.2.2) t.heap; rw [ht, hqq]; exact hP1⟩, hS1.F ht⟩) hS1.2.2 dB_79
      have hbelow : q.2.1 = mL M' 8 1 → W p l e (headSpec (mm_ws Y_X11_back) xb_room).room s m [Value.ref (ad 0), .int a].toArray below meth c H1 locs1 0 0 (vx_MQ below (xb_Q D cA ad q) (xb_X D cA ad q) [Value.ref (ad 0), .int a].toArray s 1 6 (mm_A sysC ad)) (F0 m 72 ls []) := by
        intro hv
        refine lv_aload_n hx hb dB_72 rfl (lv_at hl 0 rfl) ?_
        refine wk_geta hx hb hts hown hK hP1 fl_X11_49 ob_C_0 rfl dB_73 ?_
        refine wk_getl hx hb hts hown hK hP1 fl_X11_210 ob_C_8 rfl dB_76 ?_
        refine W.widen (k := 1) (n := 6) (by decide) (by decide) ?_
        refine vx_ret ?_
        exact W.lret hx hb hr (fun t ht hW => ⟨⟨mL M' 8 1, (), rfl, ⟨by rw [hqq], hv.symm⟩, by show va_P D mm_cl (mm_W sysC cA ad q.2.2) t.heap; rw [ht, hqq]; exact hP1⟩, hS1.F ht⟩) hS1.2.2 dB_79
      refine lv_iload_n hx hb dB_53 rfl (lv_at hl 1 rfl) ?_
      refine lv_if_eq (tgt := 62) hx hb dB_54 (by decide) (fun h0 => ?_) (fun h0 => ?_)
      · exact habove (by rw [hqq]; simp [h0])
      · refine lv_iload_n hx hb dB_57 rfl (lv_at hl 1 rfl) ?_
        refine lv_iconst (v := 2) hx hb dB_58 (by decide) ?_
        refine lv_icmp_ne (tgt := 72) hx hb dB_59 (by decide) (fun h2 => ?_) (fun h2 => ?_)
        · exact hbelow (by rw [hqq]; simp [h0, h2])
        · exact habove (by rw [hqq]; simp [h0, h2])
    refine lv_icmp_lt (tgt := 49) hx hb dB_42 (by decide) (fun h2 => ?_) (fun h2 => ?_)
    · refine lv_iconst (v := 0) hx hb dB_49 (by decide) ?_
      exact hcall 0 (by rw [if_pos h2])
    · refine lv_iconst (v := 1) hx hb dB_45 (by decide) ?_
      refine lv_goto (tgt := 50) hx hb dB_46 (by decide) ?_
      exact hcall 1 (by rw [if_neg h2])
  unfold b_back at hq
  refine lv_aload_n hx hb dB_0 rfl (lv_at hl 0 rfl) ?_
  refine wk_geta hx hb hts hown hK hP fl_X11_39 ob_C_0 rfl dB_1 ?_
  refine wk_geti hx hb hts hown hK hP fl_X11_191 ob_C_6 rfl dB_4 ?_
  refine lv_if_ne (tgt := 20) hx hb dB_7 (by decide) (fun h0 => ?_) (fun h0 => ?_)
  · rw [if_neg h0] at hq
    refine lv_iload_n hx hb dB_20 rfl (lv_at hl 1 rfl) ?_
    refine lv_if_lt (tgt := 29) hx hb dB_21 (by decide) (fun h1 => ?_) (fun h1 => ?_)
    · rw [if_pos h1] at hq
      cases hq
      exact hthrow2 rfl rfl
    · rw [if_neg h1] at hq
      refine lv_iload_n hx hb dB_24 rfl (lv_at hl 1 rfl) ?_
      refine lv_iconst (v := 3) hx hb dB_25 (by decide) ?_
      refine lv_icmp_le (tgt := 39) hx hb dB_26 (by decide) (fun h2 => ?_) (fun h2 => ?_)
      · rw [if_pos h2] at hq
        obtain ⟨M', hw, hqq⟩ := mm_bv_some hq
        exact hbody M' hw (Option.some.inj hqq).symm
      · rw [if_neg h2] at hq
        cases hq
        exact hthrow2 rfl rfl
  · have h0 : mI M 6 6 = 0 := Decidable.not_not.mp (fun h => (h h0).elim)
    rw [if_pos h0] at hq
    cases hq
    exact hthrow1 rfl rfl


/-! CONSTRUCTORS: linear walks over a world of cells at addresses that are variables; the world grows -/
def cs_room (d mc ms : Nat) : Room := { frames := d, cells := mc, slots := ms, locals := 64 * d }
def cs_ctx (Y : mm_Y) (p : Program) (s : State) (m : MethodId) (args : Array Value) (meth : Method) (c : Code) (D : va_G) (cA : Nat → ClassId) : Prop :=
  p.tables.exec = Jvm.exec ∧ c.code = Y.2.1 ∧ c.maxLocals = Y.2.2.1 ∧ meth.sig.returnType = Y.2.2.2 ∧ meth.locks = false ∧ s.vm.findClass Y.1.cls = some m.cls ∧ (∀ w ∈ mm_T, w.before args s = true) ∧ va_K D mm_cl (mm_tys cA) s ∧ meth.name = Y.1.name ∧ mm_nw s
def cs_Q (D : va_G) (P : va_W → Prop) (A : Nat → Prop) : Array Value → State → Outcome → State → Prop := fun _ st oc t => oc = .returned none ∧ (∃ ws, P ws ∧ va_P D mm_cl ws t.heap ∧ va_D A ws) ∧ va_F A st t
/-- from the frame at pc, with the world ws and k cells of n slots made so far, the constructor ends with a world of P -/
def CS (Y : mm_Y) (d mc ms : Nat) (cA : Nat → ClassId) (P : va_W → Prop) (pc : Nat) (L : mm_L) (st : List Value) (ws : va_W) (k n : Nat) : Prop :=
  ∀ (p : Program) (l : Launch) (e : Env) (s : State) (m : MethodId) (args : Array Value) (below : List Frame) (meth : Method) (c : Code) (D : va_G) (A : Nat → Prop), cs_ctx Y p s m args meth c D cA → (∀ q, s.heap.size ≤ q → A q) →
  ∀ (H : Heap) (locs : List Loc) (ls : Array Slot), va_P D mm_cl ws H → va_D A ws → va_S A s.heap H locs → lv_has ls Y.2.2.1 L →
  W p l e (cs_room d mc ms) s m args below meth c H locs k n (MQ below (cs_Q D P A) args s mc ms A) (F0 m pc ls st)
def CtI (Z : mm_Y) (d mc ms ci : Nat) (fs : List Value) (Post : (Nat → ClassId) → Nat → va_W → Prop) : Prop :=
  ∀ (l : Launch) (D : va_G) (cA : Nat → ClassId) (h0 sz : Nat), Met l Z.1 (mm_ws Z) (cs_room d mc ms) (va_Pc [.ref h0] (fun U => U.heap.size = sz ∧ va_P D mm_cl [(h0, .inr (ci, fs))] U.heap ∧ va_K D mm_cl (mm_tys cA) U ∧ mm_nw U)) (cs_Q D (Post cA h0) (va_A [(h0, .inr (ci, fs))] sz)) mc ms (va_A [(h0, .inr (ci, fs))] sz)
section CSL
variable {Y Z : mm_Y} {d d' mc ms mc' ms' pc pc' k n idx q ci kf i : Nat} {cA : Nat → ClassId} {P : va_W → Prop} {L L' : mm_L} {st : List Value} {ws ws' wr : va_W} {v va : Value}
theorem cs_aload_n {x : Nat} {f : Fin 4} (hd : mm_d Y pc (.aload_n f) 1 pc') (hi : (f : Nat) = i) (j : Nat) (hj : L[j]? = some (i, .ref x)) (h : CS Y d mc ms cA P pc' L (.ref x :: st) ws k n) : CS Y d mc ms cA P pc L st ws k n := by
  obtain ⟨hd, rfl⟩ := hd
  intro p l e s m args below meth c D A hc hA H locs ls hP hD hS hl
  exact lv_aload_n hc.1 hc.2.1 hd hi (lv_at hl j hj) (h p l e s m args below meth c D A hc hA H locs ls hP hD hS hl)
theorem cs_iconst {z : Int} (x : Int32) (hd : mm_d Y pc (.iconst z) 1 pc') (hv : Int32.ofInt z = x) (h : CS Y d mc ms cA P pc' L (.int x :: st) ws k n) : CS Y d mc ms cA P pc L st ws k n := by
  obtain ⟨hd, rfl⟩ := hd
  intro p l e s m args below meth c D A hc hA H locs ls hP hD hS hl
  exact lv_iconst hc.1 hc.2.1 hd hv (h p l e s m args below meth c D A hc hA H locs ls hP hD hS hl)
theorem cs_bipush {z : Int} (x : Int32) (hd : mm_d Y pc (.bipush z) 2 pc') (hv : (Int8.ofInt z).toInt32 = x) (h : CS Y d mc ms cA P pc' L (.int x :: st) ws k n) : CS Y d mc ms cA P pc L st ws k n := by
  obtain ⟨hd, rfl⟩ := hd
  intro p l e s m args below meth c D A hc hA H locs ls hP hD hS hl
  exact lv_bipush hc.1 hc.2.1 hd hv (h p l e s m args below meth c D A hc hA H locs ls hP hD hS hl)
theorem cs_sipush {z : Int} (x : Int32) (hd : mm_d Y pc (.sipush z) 3 pc') (hv : (Int16.ofInt z).toInt32 = x) (h : CS Y d mc ms cA P pc' L (.int x :: st) ws k n) : CS Y d mc ms cA P pc L st ws k n := by
  obtain ⟨hd, rfl⟩ := hd
  intro p l e s m args below meth c D A hc hA H locs ls hP hD hS hl
  exact lv_sipush hc.1 hc.2.1 hd hv (h p l e s m args below meth c D A hc hA H locs ls hP hD hS hl)
theorem cs_lconst {z : Fin 2} (x : Int64) (hd : mm_d Y pc (.lconst z) 1 pc') (hv : Int64.ofNat (z : Nat) = x) (h : CS Y d mc ms cA P pc' L (.long x :: st) ws k n) : CS Y d mc ms cA P pc L st ws k n := by
  obtain ⟨hd, rfl⟩ := hd
  intro p l e s m args below meth c D A hc hA H locs ls hP hD hS hl
  exact lv_lconst hc.1 hc.2.1 hd hv (h p l e s m args below meth c D A hc hA H locs ls hP hD hS hl)
theorem cs_dup (hd : mm_d Y pc (.dup) 1 pc') (hva : va.category = 1) (h : CS Y d mc ms cA P pc' L (va :: va :: st) ws k n) : CS Y d mc ms cA P pc L (va :: st) ws k n := by
  obtain ⟨hd, rfl⟩ := hd
  intro p l e s m args below meth c D A hc hA H locs ls hP hD hS hl
  exact lv_dup hc.1 hc.2.1 hd hva (h p l e s m args below meth c D A hc hA H locs ls hP hD hS hl)
theorem cs_objInit {x : Nat} (hd : mm_d Y pc (.invokespecial idx) 3 pc') (h1 : Cond.methodLink Y.1.cls idx Lib.objectInit ∈ mm_T) (h2 : Cond.instanceMethod Lib.objectInit ∈ mm_T) (h3 : Cond.code Lib.objectInit ⟨#[0xb1]⟩ 1 none ∈ mm_T) (hdp : 1 ≤ d) (hst : (st.map fun v => v.category).sum ≤ 8) (h : CS Y d mc ms cA P pc' L st ws k n) : CS Y d mc ms cA P pc L (.ref x :: st) ws k n := by
  obtain ⟨hd, rfl⟩ := hd
  intro p l e s m args below meth c D A hc hA H locs ls hP hD hS hl
  have hts := hc.2.2.2.2.2.2.1
  have hlo : 2 * (F0 m pc ls (.ref x :: st)).monitorRoom + (st.map fun v => v.category).sum ≤ 8 := lv_room hst
  exact W.objInit hc.1 hc.2.1 hc.2.2.2.2.2.1 (hts _ h1) (hts _ h2) (hts _ h3) rfl (by rw [hc.2.2.1]; exact hl.1) rfl hd hdp (by show _ ≤ 64 * d; omega) (W.eq (g2 := F0 m (pc + 3) ls st) rfl (h p l e s m args below meth c D A hc hA H locs ls hP hD hS hl))
theorem cs_get {a : Nat} {fs : List Value} {ty : FieldType} {fb : Bool} (q0 : Nat) (hd : mm_d Y pc (.getfield idx) 3 pc') (hf : mm_fl Y.1.cls idx ci kf ty fb) (he : ws[q0]? = some (a, .inr (ci, fs))) (hv : fs[kf]? = some v) (h : CS Y d mc ms cA P pc' L (v :: st) ws k n) : CS Y d mc ms cA P pc L (.ref a :: st) ws k n := by
  obtain ⟨hd, rfl⟩ := hd
  obtain ⟨C, T, N, ty0, hcl, hkN, hlk, -, -⟩ := hf
  intro p l e s m args below meth c D A hc hA H locs ls hP hD hS hl
  exact va_get (D := D) (ci := ci) (v := v) hc.1 hc.2.1 hc.2.2.2.2.2.2.1 hcl.2.1 hc.2.2.2.2.2.1 hc.2.2.2.2.2.2.2.1 hP q0 he hcl.1 kf hkN (hc.2.2.2.2.2.2.1 _ hlk) (fun _ h9 => h9) hv hd (h p l e s m args below meth c D A hc hA H locs ls hP hD hS hl)
theorem cs_putF {a : Nat} {fs : List Value} {ty : FieldType} (q0 : Nat) (hd : mm_d Y pc (.putfield idx) 3 pc') (hf : mm_fl Y.1.cls idx ci kf ty true) (hi : Y.1.name = "<init>") (ho : ∃ (T : u_T) (N : Nat), mm_cl[ci]? = some (Y.1.cls, T, N) ∧ (T kf).1 = Y.1.cls) (he : ws[q0]? = some (a, .inr (ci, fs))) (hn : narrow ty v = v) (hfit : fits ty v = true) (hl0 : kf < fs.length) (hw : ws.set q0 (a, .inr (ci, fs.set kf v)) = ws') (h : CS Y d mc ms cA P pc' L st ws' k n) : CS Y d mc ms cA P pc L (v :: .ref a :: st) ws k n := by
  obtain ⟨hd, rfl⟩ := hd
  obtain ⟨C, T, N, ty0, hcl, hkN, hlk, hty, hfin⟩ := hf
  obtain ⟨T', N', ho1, ho2⟩ := ho
  have hT : (C, T, N) = (Y.1.cls, T', N') := Option.some.inj (hcl.1.symm.trans ho1)
  cases hT
  intro p l e s m args below meth c D A hc hA H locs ls hP hD hS hl
  refine va_putF (D := D) (ci := ci) (v := v) (ty := ty) hc.1 hc.2.1 hc.2.2.2.2.2.2.1 hcl.2.1 ty0 hcl.2.2.1 hcl.2.2.2 hc.2.2.2.2.2.1 hc.2.2.2.2.2.2.2.1 hP hD hS q0 he hcl.1 kf hkN (hc.2.2.2.2.2.2.1 _ hlk) (fun _ h9 => h9) hfin (hc.2.2.2.2.2.2.2.2.1.trans hi) ho2 (by rw [hcl.2.2.1 kf hkN, hty]) hn hfit hl0 hd (fun H locs hP hD hS => ?_)
  rw [hw] at hP hD
  exact h p l e s m args below meth c D A hc hA H locs ls hP hD hS hl
theorem cs_put {a : Nat} {fs : List Value} {ty : FieldType} (q0 : Nat) (hd : mm_d Y pc (.putfield idx) 3 pc') (hf : mm_fl Y.1.cls idx ci kf ty false) (he : ws[q0]? = some (a, .inr (ci, fs))) (hn : narrow ty v = v) (hfit : fits ty v = true) (hl0 : kf < fs.length) (hw : ws.set q0 (a, .inr (ci, fs.set kf v)) = ws') (h : CS Y d mc ms cA P pc' L st ws' k n) : CS Y d mc ms cA P pc L (v :: .ref a :: st) ws k n := by
  obtain ⟨hd, rfl⟩ := hd
  obtain ⟨C, T, N, ty0, hcl, hkN, hlk, hty, hfin⟩ := hf
  intro p l e s m args below meth c D A hc hA H locs ls hP hD hS hl
  refine va_put (D := D) (ci := ci) (v := v) (ty := ty) hc.1 hc.2.1 hc.2.2.2.2.2.2.1 hcl.2.1 ty0 hcl.2.2.1 hcl.2.2.2 hc.2.2.2.2.2.1 hc.2.2.2.2.2.2.2.1 hP hD hS q0 he hcl.1 kf hkN (hc.2.2.2.2.2.2.1 _ hlk) (fun _ h9 => h9) hfin (by rw [hcl.2.2.1 kf hkN, hty]) hn hfit hl0 hd (fun H locs hP hD hS => ?_)
  rw [hw] at hP hD
  exact h p l e s m args below meth c D A hc hA H locs ls hP hD hS hl
theorem cs_new {N : Nat} {C : String} {T : u_T} {ty : Nat → FieldType} (fs : List Value) (hd : mm_d Y pc (.new idx) 3 pc') (hcls : mm_cls ci C T N ty) (h1 : Cond.classLink Y.1.cls idx C ∈ mm_T) (h2 : Cond.instantiable C N ∈ mm_T) (h3 : Cond.initialized C ∈ mm_T) (hfs : ∀ j, j < N → defaultValue (ty j) = vp_V fs j) (hk : k + 1 ≤ mc) (hn : n + N ≤ ms) (h : ∀ q, CS Y d mc ms cA P pc' L (.ref q :: st) (ws ++ [(q, .inr (ci, fs))]) (k + 1) (n + N)) : CS Y d mc ms cA P pc L st ws k n := by
  obtain ⟨hd, rfl⟩ := hd
  intro p l e s m args below meth c D A hc hA H locs ls hP hD hS hl
  have hts := hc.2.2.2.2.2.2.1
  exact va_new (ci := ci) (fs := fs) hc.1 hc.2.1 hts hcls.2.1 ty hcls.2.2.1 hc.2.2.2.2.2.1 (hts _ h1) (hts _ h2) (hts _ h3) hc.2.2.2.2.2.2.2.1 hP hD hS hA hcls.1 hfs hk hn hd (fun q H hP hD hS => h q p l e s m args below meth c D A hc hA H locs ls hP hD hS hl)
theorem cs_tyA {D : va_G} {cA : Nat → ClassId} {s : State} {kd : Nat} {ty : FieldType} {cB : ClassId} (hK : va_K D mm_cl (mm_tys cA) s) (ht : (mm_tys cA)[kd]? = some (cA kd, ty)) (hty : ty = .int ∨ ty = .boolean ∨ ty = .long) (hK2 : va_K D mm_cl (mm_tys cA ++ [(cB, ty)]) s) : cB = cA kd := by
  have h1 := (hK.2 kd _ ht).2
  have h2 := (hK2.2 3 (cB, ty) rfl).2
  rcases hty with rfl | rfl | rfl
  · exact Option.some.inj (h2.symm.trans h1)
  · exact Option.some.inj (h2.symm.trans h1)
  · exact Option.some.inj (h2.symm.trans h1)
theorem cs_newI {N : Nat} {x : Int32} (hd : mm_d Y pc (.newarray .int) 2 pc') (h1 : Cond.arrayClass .int ∈ mm_T) (hx : ¬ x < 0) (hN : x.toNatClampNeg = N) (hb : N * componentBytes .int ≤ 536870912) (hk : k + 1 ≤ mc) (hn : n + N ≤ ms) (h : ∀ q, CS Y d mc ms cA P pc' L (.ref q :: st) (ws ++ [(q, .inl (cA 0, N, .inl (fun _ => 0)))]) (k + 1) (n + N)) : CS Y d mc ms cA P pc L (.int x :: st) ws k n := by
  obtain ⟨hd, rfl⟩ := hd
  intro p l e s m args below meth c D A hc hA H locs ls hP hD hS hl
  have hK := hc.2.2.2.2.2.2.2.1
  refine va_newa (atype := .int) (ty := .int) (a0 := (N, .inl (fun _ => 0))) hc.1 hc.2.1 (hc.2.2.2.2.2.2.1 _ h1) rfl hK hP hD hS hA (fun _ => rfl) hx hN hb hk hn hd (fun q cB H hK2 hP hD hS => ?_)
  cases cs_tyA (kd := 0) hK rfl (Or.inl rfl) hK2
  exact h q p l e s m args below meth c D A hc hA H locs ls hP hD hS hl
theorem cs_newZ {N : Nat} {x : Int32} (hd : mm_d Y pc (.newarray .boolean) 2 pc') (h1 : Cond.arrayClass .boolean ∈ mm_T) (hx : ¬ x < 0) (hN : x.toNatClampNeg = N) (hb : N * componentBytes .boolean ≤ 536870912) (hk : k + 1 ≤ mc) (hn : n + N ≤ ms) (h : ∀ q, CS Y d mc ms cA P pc' L (.ref q :: st) (ws ++ [(q, .inl (cA 1, N, .inl (fun _ => 0)))]) (k + 1) (n + N)) : CS Y d mc ms cA P pc L (.int x :: st) ws k n := by
  obtain ⟨hd, rfl⟩ := hd
  intro p l e s m args below meth c D A hc hA H locs ls hP hD hS hl
  have hK := hc.2.2.2.2.2.2.2.1
  refine va_newa (atype := .boolean) (ty := .boolean) (a0 := (N, .inl (fun _ => 0))) hc.1 hc.2.1 (hc.2.2.2.2.2.2.1 _ h1) rfl hK hP hD hS hA (fun _ => rfl) hx hN hb hk hn hd (fun q cB H hK2 hP hD hS => ?_)
  cases cs_tyA (kd := 1) hK rfl (Or.inr (Or.inl rfl)) hK2
  exact h q p l e s m args below meth c D A hc hA H locs ls hP hD hS hl
theorem cs_iast {a N : Nat} {f : Nat → Int32} {i x : Int32} (q0 : Nat) (hd : mm_d Y pc (.iastore) 1 pc') (he : ws[q0]? = some (a, .inl (cA 0, N, .inl f))) (hin : vp_in i N) (hw : ws.set q0 (a, .inl (cA 0, N, .inl (upd f i.toNatClampNeg x))) = ws') (h : CS Y d mc ms cA P pc' L st ws' k n) : CS Y d mc ms cA P pc L (.int x :: .int i :: .ref a :: st) ws k n := by
  obtain ⟨hd, rfl⟩ := hd
  intro p l e s m args below meth c D A hc hA H locs ls hP hD hS hl
  refine va_iast hc.1 hc.2.1 hc.2.2.2.2.2.2.2.1 hP hD hS q0 0 he rfl hin hd (fun H locs hP hD hS => ?_)
  rw [hw] at hP hD
  exact h p l e s m args below meth c D A hc hA H locs ls hP hD hS hl
theorem cs_vret (hd : mm_d Y pc (.return_) 1 pc') (hr : Y.2.2.2 = none) (hk : k = mc) (hn : n = ms) (h : P ws) : CS Y d mc ms cA P pc L [] ws k n := by
  subst hk; subst hn
  intro p l e s m args below meth c D A hc hA H locs ls hP hD hS hl
  have hlocks : meth.locks = false := hc.2.2.2.2.1
  exact W.vret hc.1 hc.2.1 (hc.2.2.2.1.trans hr) (fun t ht hW => ⟨rfl, ⟨ws, h, by rw [ht]; exact hP, hD⟩, hS.F ht⟩) hS.2.2 hd.1
/-- a constructor called on the cell that was made last -/
theorem cs_callI {fs : List Value} {Post : (Nat → ClassId) → Nat → va_W → Prop} {np : Nat} (hd : mm_d Y pc (.invokespecial idx) 3 pc') (hl : Cond.methodLink Y.1.cls idx Z.1 ∈ mm_T) (hz : mm_cz Z np) (hz2 : Cond.instanceMethod Z.1 ∈ mm_T) (hz3 : Z.1.name = "<init>") (hz4 : Z.2.2.2 = none) (hnp : np = 0) (hdd : d' + 1 ≤ d) (hst : (st.map fun v => v.category).sum ≤ 8) (hk : k + mc' ≤ mc) (hn : n + ms' ≤ ms)
    (hM : CtI Z d' mc' ms' ci fs Post) (hw : ws = wr ++ [(q, .inr (ci, fs))]) (h : ∀ w1, Post cA q w1 → CS Y d mc ms cA P pc' L st (wr ++ w1) (k + mc') (n + ms')) : CS Y d mc ms cA P pc L (.ref q :: st) ws k n := by
  obtain ⟨hd, rfl⟩ := hd
  subst hnp
  subst hw
  intro p l e s m args below meth c D A hc hA H locs ls hP hD hS hl2
  have hts := hc.2.2.2.2.2.2.1
  have hK := hc.2.2.2.2.2.2.2.1
  obtain ⟨hz1, hz22, hz33, hz44⟩ := hz
  have hlast : (wr ++ [(q, (.inr (ci, fs) : va_E))])[wr.length]? = some (q, .inr (ci, fs)) := by simp
  have hPc : va_P D mm_cl [(q, .inr (ci, fs))] H := hP.sub [wr.length] (by simp)
  have hC : [wr.length].map (fun i => (wr ++ [(q, (.inr (ci, fs) : va_E))])[i]?) = [(q, (.inr (ci, fs) : va_E))].map some := by simp
  have hFc := va_free (wc := [(q, .inr (ci, fs))]) hD hS hA [wr.length] hC
  have cb : CallB (cs_room d mc ms) s args Y.1.cls idx Z.1 Z.2.1 Z.2.2.1 none (mm_ws Z) (cs_room d' mc' ms') mc' ms' 0 := by
    have := callB_of (R := cs_room d mc ms) (rm := cs_room d' mc' ms') (mc := mc') (ms := ms') (ret := Z.2.2.2) (bytes := Z.2.1) (maxL := Z.2.2.1) 0 hts (mm_goodIn hz22) rfl rfl rfl (hts _ hz1) (hts _ hl) hz33 ⟨hdd, by show 8 + (Z.2.2.1 + 11) + 64 * d' ≤ 64 * d; omega⟩
    rw [hz4] at this
    exact this
  have run := va_runI (p := p) (l := l) (e := e) (R := cs_room d mc ms) (s := s) (m := m) (args := args) (below := below) (meth := meth) (c := c) (H := H) (locs := locs) (cells := k) (slots := n) (g := F0 m pc ls (.ref q :: st)) (rest := st) (As := []) (b := q) (own := Y.1.cls) (Ts := mm_T) (cc := Y.2.1) (nL := Y.2.2.1)
    ⟨hc.1, hc.2.1, hc.2.2.1, hc.2.2.2.2.2.1, hts⟩ (hM l D cA q H.size) ⟨cb, hz3, hts _ hz2⟩
    ⟨fun a U g mk q => ⟨q.1, q.2.1, q.2.2.1, va_K.moved (u := U) (U := U.calling g mk a) (Vm.Alike.refl U.vm) q.2.2.2.1, va_Nw.same rfl rfl q.2.2.2.2⟩, fun U hU hW => ⟨rfl, by rw [hU], by rw [hU]; exact hPc, va_K.moved hW.alike hK, va_Nw.warmM hW hc.2.2.2.2.2.2.2.2.2⟩⟩
    rfl rfl hl2.1 rfl (lv_room hst) hd ⟨hk, hn⟩
  intro T hT X
  obtain ⟨v, st₀, t, T', Lc, h0, X', hLc, e1, e2, ⟨hv, ⟨w1, hP1, hPt, hD1⟩, hF⟩, go⟩ := run T hT X
  cases hv
  have hF1 := hF.1
  have hF2 := hF.2
  rw [h0] at hF1 hF2
  rw [← e1] at hF1 hF2 hPt
  have hR : (List.range wr.length).map (fun i => (wr ++ [(q, (.inr (ci, fs) : va_E))])[i]?) = wr.map some := by
    apply List.ext_getElem?
    intro j
    by_cases hj : j < wr.length
    · simp [hj, List.getElem?_append_left hj]
    · simp [hj]
  have hnd : va_nd (List.range wr.length) = true := by
    have key : ∀ (l : List Nat), l.Nodup → va_nd l = true := by
      intro l hl
      induction l with
      | nil => rfl
      | cons a l ih =>
        rw [List.nodup_cons] at hl
        simp only [va_nd, Bool.and_eq_true, decide_eq_true_eq]
        exact ⟨hl.1, ih hl.2⟩
    exact key _ List.nodup_range
  obtain ⟨hP', hD'⟩ := va_join (wr := wr) (w1 := w1) hP hD [wr.length] (List.range wr.length) hC hR hnd (fun i hi => by
    have := List.mem_range.mp hi
    simp; omega) hF2 hFc hPt hD1
  obtain ⟨t2, a1, b1⟩ := h w1 hP1 p l e s m args below meth c D A hc hA T'.heap (locs ++ Lc) ls hP' hD' (mm_S_after hS hF1 (fun q' h1 h2 => hF2 q' h1 (fun z => h2 (hFc q' z))) (fun q' hq => hFc _ (hLc q' hq))) hl2 T' rfl X'
  exact ⟨t2, go t2 a1, b1⟩
theorem cs_eq (hw : ws = ws') (h : CS Y d mc ms cA P pc L st ws' k n) : CS Y d mc ms cA P pc L st ws k n := hw ▸ h
theorem cs_num {k' n' : Nat} (hk : k = k') (hn : n = n') (h : CS Y d mc ms cA P pc L st ws k' n') : CS Y d mc ms cA P pc L st ws k n := by
  subst hk; subst hn; exact h
end CSL
/-- one int array of five places, by itself: for Arrays.fill in a constructor -/
def sysA : mm_S := (fun _ => .inr (0, 5), 1)
theorem ar_A_0 : mm_ar sysA 0 0 5 := ⟨Nat.le_of_ble_eq_true rfl, rfl⟩
theorem cs_fill {Y Z : mm_Y} {d d' mc ms pc pc' k n idx q : Nat} {cA : Nat → ClassId} {P : va_W → Prop} {L : mm_L} {st : List Value} {ws wr : va_W} {x : Int32} {f g : Nat → Int32} {M' : mm_M} {F : Option mm_M} (q0 : Nat) (isR : List Nat) (hd : mm_d Y pc (.invokestatic idx) 3 pc') (hl : Cond.methodLink Y.1.cls idx Z.1 ∈ mm_T) (hz : mm_cs Z 2) (hdd : d' + 1 ≤ d) (hst : (st.map fun v => v.category).sum ≤ 8) (hfit : k ≤ mc ∧ n ≤ ms)
    (hM : Ct sysA Z d' [.ref 0, .int x] (fun _ j => f j, fun _ _ => 0) mm_fV F) (hF0 : F = some M') (hg : (fun j => mI M' 0 j) = g) (hC : [q0].map (fun i => ws[i]?) = [(q, (.inl (cA 0, 5, .inl f) : va_E))].map some) (hR : isR.map (fun i => ws[i]?) = wr.map some) (hnd : va_nd isR = true) (hdis : ∀ i ∈ isR, i ∉ [q0])
    (h : CS Y d mc ms cA P pc' L st (wr ++ [(q, .inl (cA 0, 5, .inl g))]) k n) : CS Y d mc ms cA P pc L (.int x :: .ref q :: st) ws k n := by
  obtain ⟨hd, rfl⟩ := hd
  intro p l e s m args below meth c D A hc hA H locs ls hP hD hS hl2
  have hts := hc.2.2.2.2.2.2.1
  have hK := hc.2.2.2.2.2.2.2.1
  obtain ⟨⟨hz1, hz22, hz33, hz44⟩, hz5⟩ := hz
  have hws : ws[q0]? = some (q, .inl (cA 0, 5, .inl f)) := by simpa using hC
  have hin : mm_inj sysA (fun _ => q) := fun i j hi hj _ => by
    have h1 : i < 1 := hi
    have h2 : j < 1 := hj
    omega
  have hPc : va_P D mm_cl (mm_W sysA cA (fun _ => q) (fun _ j => f j, fun _ _ => 0)) H := hP.sub (ws' := [(q, .inl (cA 0, 5, .inl f))]) [q0] (by simp [hws])
  have hFc := va_free (wc := [(q, .inl (cA 0, 5, .inl f))]) hD hS hA [q0] hC
  have hsub : ∀ z, mm_A sysA (fun _ => q) z → va_A [(q, (.inl (cA 0, 5, .inl f) : va_E))] H.size z := fun z hz => by
    obtain ⟨j, -, hj⟩ := hz
    have hj : z = q := hj
    rw [hj]
    exact va_A.in (k := 0) (q := (q, .inl (cA 0, 5, .inl f))) rfl
  have cb : CallB (cs_room d mc ms) s args Y.1.cls idx Z.1 Z.2.1 Z.2.2.1 Z.2.2.2 (mm_ws Z) (mm_room d') 0 0 2 :=
    callB_of 2 hts (mm_goodIn hz22) rfl rfl rfl (hts _ hz1) (hts _ hl) hz33 ⟨hdd, by show 8 + (Z.2.2.1 + 11) + 64 * d' ≤ 64 * d; omega⟩
  intro T hT X
  have run := va_runS (p := p) (l := l) (e := e) (R := cs_room d mc ms) (s := s) (m := m) (args := args) (below := below) (meth := meth) (c := c) (H := H) (locs := locs) (cells := k) (slots := n) (g := F0 m pc ls (.int x :: .ref q :: st)) (rest := st) (As := [.ref q, .int x]) (own := Y.1.cls) (Ts := mm_T) (cc := Y.2.1) (nL := Y.2.2.1)
    ⟨hc.1, hc.2.1, hc.2.2.1, hc.2.2.2.2.2.1, hts⟩ (hM M' hF0 l D cA (fun _ => q) hin) ⟨cb, hts _ hz5⟩
    ⟨fun a U g mk q => ⟨q.1, q.2.1, va_K.moved (u := U) (U := U.calling g mk a) (Vm.Alike.refl U.vm) q.2.2.1, va_Nw.same rfl rfl q.2.2.2⟩, fun U hU hW => ⟨rfl, by rw [hU]; exact hPc, va_K.moved hW.alike hK, va_Nw.warmM hW hc.2.2.2.2.2.2.2.2.2⟩⟩
    rfl rfl hl2.1 rfl (lv_room hst) hd ⟨hfit.1, hfit.2⟩
  obtain ⟨v, st₀, t, T', Lc, h0, X', hLc, e1, e2, ⟨hv, hPt, hF⟩, go⟩ := run T hT X
  cases hv
  have hF1 := hF.1
  have hF2 := hF.2
  rw [h0] at hF1 hF2
  rw [← e1] at hF1 hF2 hPt
  have hPt : va_P D mm_cl [(q, .inl (cA 0, 5, .inl (fun j => mI M' 0 j)))] T'.heap := hPt
  rw [hg] at hPt
  have hD1 : va_D (va_A [(q, (.inl (cA 0, 5, .inl f) : va_E))] H.size) [(q, (.inl (cA 0, 5, .inl g) : va_E))] := ⟨fun i j p q hi hj _ => by
      have h1 := (List.getElem?_eq_some_iff.mp hi).1
      have h2 := (List.getElem?_eq_some_iff.mp hj).1
      simp at h1 h2
      omega, fun j z hj => by
      have h1 := (List.getElem?_eq_some_iff.mp hj).1
      simp at h1
      subst h1
      cases hj
      exact va_A.in (k := 0) (q := (q, .inl (cA 0, 5, .inl f))) rfl⟩
  obtain ⟨hP', hD'⟩ := va_join (wr := wr) (w1 := [(q, .inl (cA 0, 5, .inl g))]) hP hD [q0] isR hC hR hnd hdis (fun z h1 h2 => hF2 z h1 (fun h3 => h2 (hsub z h3))) hFc hPt hD1
  obtain ⟨t2, a1, b1⟩ := h p l e s m args below meth c D A hc hA T'.heap (locs ++ Lc) ls hP' hD' (mm_S_after hS hF1 (fun z h1 h2 => hF2 z h1 (fun h3 => h2 (hFc z (hsub z h3)))) (fun z hz => hFc _ (hsub _ (hLc z hz)))) hl2 T' rfl X'
  exact ⟨t2, go t2 a1, b1⟩
/-- the constructor's contract out of its body -/
theorem cti_of {Z : mm_Y} {d mc ms ci : Nat} {fs : List Value} {Post : (Nat → ClassId) → Nat → va_W → Prop} (hy : plainName Z.1.cls = true) (hn : 1 ≤ Z.2.2.1) (h : ∀ cA h0, CS Z d mc ms cA (Post cA h0) 0 [(0, .ref h0)] [] [(h0, .inr (ci, fs))] 0 0) : CtI Z d mc ms ci fs Post := by
  intro l D cA h0 sz
  refine Met.ofW (cc := Z.2.1) (maxL := Z.2.2.1) (ret := Z.2.2.2) hy rfl ?_
  intro p e s m args below meth c s₁ B hml hv
  obtain ⟨rfl, hsz, hP, hK, hN⟩ := hv
  subst hsz
  have hts := atoms_spec (ws := mm_ws Z) B.pre
  have hown : s.vm.findClass Z.1.cls = some m.cls := findClass_of_methodNamed B.named
  have hl := lv_entry ([.ref h0]) (n := Z.2.2.1) hn
  rw [lg_entry_eq]
  have hD : va_D (va_A [(h0, .inr (ci, fs))] s.heap.size) [(h0, (.inr (ci, fs) : va_E))] := ⟨fun i j p q hi hj _ => by
      have h1 := (List.getElem?_eq_some_iff.mp hi).1
      have h2 := (List.getElem?_eq_some_iff.mp hj).1
      simp at h1 h2
      omega, fun k q hk => va_A.in hk⟩
  exact h cA h0 p l e s m _ below meth c D (va_A [(h0, .inr (ci, fs))] s.heap.size) ⟨B.exec, B.bytes, hml, B.returns, B.notSynchronized, hown, fun w hw => hts w (List.mem_cons_of_mem _ hw), hK, (name_of_methodNamed B.named B.method).1, hN⟩ (fun q hq => Or.inr hq) s.heap [] _ hP hD va_S.rf hl

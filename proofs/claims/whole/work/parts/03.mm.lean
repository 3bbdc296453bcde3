/-! THE ABSTRACT MEMORY. A system S = (layout, number of cells). Cell o is an object (its class's number in mm_cl, its fields by kind: 0 int, 1 long, 2 a reference to the cell named, 3 boolean) or an array (kind 0 int, 1 boolean, 2 long; length). The memory M holds what may change: ints and longs, by cell and place. -/
abbrev mm_M : Type := (Nat → Nat → Int32) × (Nat → Nat → Int64)
abbrev mm_O : Type := (Nat × List (Nat × Nat)) ⊕ (Nat × Nat)
abbrev mm_S : Type := (Nat → mm_O) × Nat
abbrev mm_Y : Type := MethodName × ByteArray × Nat × Option FieldType
abbrev mm_L : Type := List (Nat × Value)
/-- the tables' words that a call hands on -/
def mm_T : List Cond := lw_tbl.filter goodWord
def mI (M : mm_M) (o i : Nat) : Int32 := M.1 o i
def mL (M : mm_M) (o i : Nat) : Int64 := M.2 o i
def sI (M : mm_M) (o i : Nat) (v : Int32) : mm_M := (fun a b => if a = o ∧ b = i then v else M.1 a b, M.2)
def sL (M : mm_M) (o i : Nat) (v : Int64) : mm_M := (M.1, fun a b => if a = o ∧ b = i then v else M.2 a b)
def mm_conc (ad : Nat → Nat) (v : Value) : Value := match v with
  | .ref k => .ref (ad k)
  | .int x => .int x
  | .long x => .long x
  | .float x => .float x
  | .double x => .double x
  | .null => .null
  | .retAddr x => .retAddr x
def mm_cS (ad : Nat → Nat) (st : List Value) : List Value := st.map (mm_conc ad)
def mm_cL (ad : Nat → Nat) (L : mm_L) : mm_L := L.map (fun q => (q.1, mm_conc ad q.2))
def mm_fv (ad : Nat → Nat) (M : mm_M) (o : Nat) (q : Nat × Nat) (j : Nat) : Value := match q.1 with
  | 1 => .long (mL M o j)
  | 2 => .ref (ad q.2)
  | _ => .int (mI M o j)
def mm_fs (ad : Nat → Nat) (M : mm_M) (o : Nat) (fs : List (Nat × Nat)) : List Value := fs.zipIdx.map (fun q => mm_fv ad M o q.1 q.2)
def mm_cell (lay : Nat → mm_O) (cA : Nat → ClassId) (ad : Nat → Nat) (M : mm_M) (o : Nat) : va_E := match lay o with
  | .inl q => .inr (q.1, mm_fs ad M o q.2)
  | .inr q => .inl (cA q.1, q.2, if q.1 = 2 then .inr (.inl (fun j => mL M o j)) else .inl (fun j => mI M o j))
def mm_W (S : mm_S) (cA : Nat → ClassId) (ad : Nat → Nat) (M : mm_M) : va_W := (List.range S.2).map (fun k => (ad k, mm_cell S.1 cA ad M k))
def mm_A (S : mm_S) (ad : Nat → Nat) : Nat → Prop := fun q => ∃ k, k < S.2 ∧ q = ad k
def mm_tys (cA : Nat → ClassId) : List (ClassId × FieldType) := [(cA 0, .int), (cA 1, .boolean), (cA 2, .long)]
def mm_room (d : Nat) : Room := { frames := d, cells := 0, slots := 0, locals := 64 * d }
def mm_ws (Y : mm_Y) : List Cond := Cond.code Y.1 Y.2.1 Y.2.2.1 Y.2.2.2 :: mm_T
abbrev mm_cl : List vw_C := [(RX0, TX0, 5), (RX1, TX1, 8), (RX2, TX2, 7), (RX3, TX3, 2), (RX4, TX4, 12), (RX5, TX5, 6), (RX6, TX6, 9), (RX7, TX7, 5), (RX8, TX8, 6), (RX9, TX9, 8), (RX10, TX10, 13), (RX11, TX11, 18), (RX12, TX12, 77)]
def mm_inj (S : mm_S) (ad : Nat → Nat) : Prop := ∀ i j, i < S.2 → j < S.2 → ad i = ad j → i = j
theorem mm_W_at {S : mm_S} {cA : Nat → ClassId} {ad : Nat → Nat} {M : mm_M} {k : Nat} (h : k < S.2) : (mm_W S cA ad M)[k]? = some (ad k, mm_cell S.1 cA ad M k) := by
  simp [mm_W, h]
theorem mm_W_of {S : mm_S} {cA : Nat → ClassId} {ad : Nat → Nat} {M : mm_M} {k : Nat} {q : Nat × va_E} (h : (mm_W S cA ad M)[k]? = some q) : k < S.2 ∧ q = (ad k, mm_cell S.1 cA ad M k) := by
  have hk : k < S.2 := by
    have := (List.getElem?_eq_some_iff.mp h).1
    simpa [mm_W] using this
  rw [mm_W_at hk] at h
  exact ⟨hk, (Option.some.inj h).symm⟩
theorem mm_W_set {S : mm_S} {cA : Nat → ClassId} {ad : Nat → Nat} {M M' : mm_M} {k : Nat} {e : va_E} (h : mm_cell S.1 cA ad M' k = e) (ho : ∀ j, j ≠ k → mm_cell S.1 cA ad M' j = mm_cell S.1 cA ad M j) : (mm_W S cA ad M).set k (ad k, e) = mm_W S cA ad M' := by
  apply List.ext_getElem?
  intro j
  by_cases hj : j < S.2
  · rw [mm_W_at hj]
    by_cases hjk : j = k
    · subst hjk
      rw [List.getElem?_set_self (by simpa [mm_W] using hj), h]
    · rw [List.getElem?_set_ne (fun e => hjk e.symm), mm_W_at hj, ho j hjk]
  · have h1 : (mm_W S cA ad M').length ≤ j := by simpa [mm_W] using hj
    have h2 : ((mm_W S cA ad M).set k (ad k, e)).length ≤ j := by simpa [mm_W] using hj
    rw [List.getElem?_eq_none h1, List.getElem?_eq_none h2]
theorem mm_D {S : mm_S} {cA : Nat → ClassId} {ad : Nat → Nat} {M : mm_M} (h : mm_inj S ad) : va_D (mm_A S ad) (mm_W S cA ad M) := by
  refine ⟨fun i j p q hi hj hpq => ?_, fun k q hk => ?_⟩
  · obtain ⟨h1, rfl⟩ := mm_W_of hi
    obtain ⟨h2, rfl⟩ := mm_W_of hj
    exact h i j h1 h2 hpq
  · obtain ⟨h1, rfl⟩ := mm_W_of hk
    exact ⟨k, h1, rfl⟩
theorem mm_cell_sI_ne {lay : Nat → mm_O} {cA : Nat → ClassId} {ad : Nat → Nat} {M : mm_M} {o i j : Nat} {v : Int32} (h : j ≠ o) : mm_cell lay cA ad (sI M o i v) j = mm_cell lay cA ad M j := by
  have e : ∀ b, mI (sI M o i v) j b = mI M j b := fun b => by simp [mI, sI, h]
  have e2 : ∀ b, mL (sI M o i v) j b = mL M j b := fun b => rfl
  unfold mm_cell mm_fs mm_fv
  simp only [e, e2]
theorem mm_cell_sL_ne {lay : Nat → mm_O} {cA : Nat → ClassId} {ad : Nat → Nat} {M : mm_M} {o i j : Nat} {v : Int64} (h : j ≠ o) : mm_cell lay cA ad (sL M o i v) j = mm_cell lay cA ad M j := by
  have e : ∀ b, mL (sL M o i v) j b = mL M j b := fun b => by simp [mL, sL, h]
  have e2 : ∀ b, mI (sL M o i v) j b = mI M j b := fun b => rfl
  unfold mm_cell mm_fs mm_fv
  simp only [e, e2]
theorem mm_fs_at {ad : Nat → Nat} {M : mm_M} {o k : Nat} {fs : List (Nat × Nat)} {q : Nat × Nat} (h : fs[k]? = some q) : (mm_fs ad M o fs)[k]? = some (mm_fv ad M o q k) := by
  simp [mm_fs, h]
theorem mm_fs_len {ad : Nat → Nat} {M : mm_M} {o : Nat} {fs : List (Nat × Nat)} : (mm_fs ad M o fs).length = fs.length := by
  simp [mm_fs]
theorem mm_fs_sI {ad : Nat → Nat} {M : mm_M} {o k : Nat} {fs : List (Nat × Nat)} {q : Nat × Nat} {v : Int32} (h : fs[k]? = some q) (hq : q.1 = 0 ∨ q.1 = 3) : mm_fs ad (sI M o k v) o fs = (mm_fs ad M o fs).set k (.int v) := by
  apply List.ext_getElem?
  intro j
  by_cases hj : j < fs.length
  · have hf : fs[j]? = some fs[j] := List.getElem?_eq_getElem hj
    rw [mm_fs_at hf]
    by_cases hjk : j = k
    · subst hjk
      rw [List.getElem?_set_self (by rw [mm_fs_len]; exact hj)]
      rw [h] at hf
      cases hf
      rcases hq with hq | hq <;> simp [mm_fv, hq, mI, sI]
    · rw [List.getElem?_set_ne (fun e => hjk e.symm), mm_fs_at hf]
      simp [mm_fv, mI, sI, mL, hjk]
  · rw [List.getElem?_eq_none (by rw [mm_fs_len]; omega), List.getElem?_eq_none (by rw [List.length_set, mm_fs_len]; omega)]
theorem mm_fs_sL {ad : Nat → Nat} {M : mm_M} {o k : Nat} {fs : List (Nat × Nat)} {q : Nat × Nat} {v : Int64} (h : fs[k]? = some q) (hq : q.1 = 1) : mm_fs ad (sL M o k v) o fs = (mm_fs ad M o fs).set k (.long v) := by
  apply List.ext_getElem?
  intro j
  by_cases hj : j < fs.length
  · have hf : fs[j]? = some fs[j] := List.getElem?_eq_getElem hj
    rw [mm_fs_at hf]
    by_cases hjk : j = k
    · subst hjk
      rw [List.getElem?_set_self (by rw [mm_fs_len]; exact hj)]
      rw [h] at hf
      cases hf
      simp [mm_fv, hq, mL, sL]
    · rw [List.getElem?_set_ne (fun e => hjk e.symm), mm_fs_at hf]
      simp [mm_fv, mI, sL, mL, hjk]
  · rw [List.getElem?_eq_none (by rw [mm_fs_len]; omega), List.getElem?_eq_none (by rw [List.length_set, mm_fs_len]; omega)]
/-! what is known inside a method -/
/-- the one link of a nest: the tape asks the outer class for isFact -/
def mm_nw (U : State) : Prop := va_Nw (.methodLinkNest RX8 63 yX11_isFact "YoungBuyers") U
def mm_ctx (S : mm_S) (Y : mm_Y) (p : Program) (s : State) (m : MethodId) (args : Array Value) (meth : Method) (c : Code) (D : va_G) (cA : Nat → ClassId) (ad : Nat → Nat) : Prop :=
  p.tables.exec = Jvm.exec ∧ c.code = Y.2.1 ∧ c.maxLocals = Y.2.2.1 ∧ meth.sig.returnType = Y.2.2.2 ∧ meth.locks = false ∧ s.vm.findClass Y.1.cls = some m.cls ∧ (∀ w ∈ mm_T, w.before args s = true) ∧ va_K D mm_cl (mm_tys cA) s ∧ mm_inj S ad ∧ mm_nw s
def mm_Q (S : mm_S) (D : va_G) (cA : Nat → ClassId) (ad : Nat → Nat) (r : Option Value × mm_M) : Array Value → State → Outcome → State → Prop := fun _ st oc t => oc = .returned (r.1.map (mm_conc ad)) ∧ va_P D mm_cl (mm_W S cA ad r.2) t.heap ∧ va_F (mm_A S ad) st t
def mm_G (S : mm_S) (Y : mm_Y) (d : Nat) (r : Option Value × mm_M) (pc : Nat) (L : mm_L) (st : List Value) (M : mm_M) : Prop :=
  ∀ (p : Program) (l : Launch) (e : Env) (s : State) (m : MethodId) (args : Array Value) (below : List Frame) (meth : Method) (c : Code) (D : va_G) (cA : Nat → ClassId) (ad : Nat → Nat), mm_ctx S Y p s m args meth c D cA ad →
  ∀ (H : Heap) (locs : List Loc) (ls : Array Slot), va_P D mm_cl (mm_W S cA ad M) H → va_S (mm_A S ad) s.heap H locs → lv_has ls Y.2.2.1 (mm_cL ad L) →
  W p l e (mm_room d) s m args below meth c H locs 0 0 (MQ below (mm_Q S D cA ad r) args s 0 0 (mm_A S ad)) (F0 m pc ls (mm_cS ad st))
/-- from the frame at pc with locals L, operand stack st and memory M the method ends as X says, if X says something -/
def Sim {α : Type} (S : mm_S) (Y : mm_Y) (d pc : Nat) (L : mm_L) (st : List Value) (M : mm_M) (fin : α → Option Value × mm_M) (X : Option α) : Prop := ∀ res, X = some res → mm_G S Y d (fin res) pc L st M
def mm_fI (r : Int32 × mm_M) : Option Value × mm_M := (some (.int r.1), r.2)
def mm_fL (r : Int64 × mm_M) : Option Value × mm_M := (some (.long r.1), r.2)
def mm_fV (r : mm_M) : Option Value × mm_M := (none, r)
/-- the contract of method Z on arguments as and memory M: it answers as F says, if F says something -/
def Ct {β : Type} (S : mm_S) (Z : mm_Y) (d : Nat) (as : List Value) (M : mm_M) (fin : β → Option Value × mm_M) (F : Option β) : Prop :=
  ∀ res, F = some res → ∀ (l : Launch) (D : va_G) (cA : Nat → ClassId) (ad : Nat → Nat), mm_inj S ad →
  Met l Z.1 (mm_ws Z) (mm_room d) (va_Pc (mm_cS ad as) (fun U => va_P D mm_cl (mm_W S cA ad M) U.heap ∧ va_K D mm_cl (mm_tys cA) U ∧ mm_nw U)) (mm_Q S D cA ad (fin res)) 0 0 (mm_A S ad)
/-! decoded instructions, links -/
def mm_d (Y : mm_Y) (pc : Nat) (ins : Instr) (n pc' : Nat) : Prop := decode Y.2.1 pc = .ok (ins, n) ∧ pc + n = pc'
def mm_dj (Y : mm_Y) (pc : Nat) (ins : Instr) (n pc' : Nat) (off : Int) (tgt : Nat) : Prop := mm_d Y pc ins n pc' ∧ (pc : Int) + off = (tgt : Int)
def mm_ob (S : mm_S) (o ci : Nat) (fs : List (Nat × Nat)) : Prop := o < S.2 ∧ S.1 o = .inl (ci, fs)
def mm_ar (S : mm_S) (o kd n : Nat) : Prop := o < S.2 ∧ S.1 o = .inr (kd, n)
/-- a field of class number ci: its place k, its table, all that reading and writing ask of the tables -/
def mm_cls (ci : Nat) (C : String) (T : u_T) (N : Nat) (ty : Nat → FieldType) : Prop := mm_cl[ci]? = some (C, T, N) ∧ (∀ w ∈ u_ws C T N, w ∈ mm_T) ∧ (∀ k, k < N → parseFieldDescriptor (T k).2.2.1 = some (ty k)) ∧ (∀ a, a < N → ∀ b, b < N → a ≠ b → (T a).2.1 ≠ (T b).2.1)
def mm_fl (own : String) (idx ci k : Nat) (tyk : FieldType) (fin : Bool) : Prop := ∃ (C : String) (T : u_T) (N : Nat) (ty : Nat → FieldType), mm_cls ci C T N ty ∧ k < N ∧ Cond.fieldLink own idx (T k).1 (T k).2.1 (T k).2.2.1 ∈ mm_T ∧ ty k = tyk ∧ (T k).2.2.2 = fin
theorem mm_cls_in {C : String} {T : u_T} {N : Nat} (h : ∀ k, k < N → u_lay C T k ∈ mm_T) : ∀ w ∈ u_ws C T N, w ∈ mm_T := by
  intro w hw
  unfold u_ws at hw
  obtain ⟨k, hk, rfl⟩ := List.mem_map.mp hw
  exact h k (List.mem_range.mp hk)
theorem mm_t0 : ∀ w ∈ k2_sels lw_privs, w ∈ lw_tbl := fun w h => by unfold lw_tbl; exact List.mem_append_left _ h
theorem mm_t1 : ∀ w ∈ tables_1_1, w ∈ lw_tbl := fun w h => by unfold lw_tbl tables_1; exact List.mem_append_right _ (List.mem_append_left _ h)
theorem mm_t2 : ∀ w ∈ tables_1_2, w ∈ lw_tbl := fun w h => by unfold lw_tbl tables_1; exact List.mem_append_right _ (List.mem_append_right _ (List.mem_append_left _ h))
theorem mm_t3 : ∀ w ∈ tables_1_3, w ∈ lw_tbl := fun w h => by unfold lw_tbl tables_1; exact List.mem_append_right _ (List.mem_append_right _ (List.mem_append_right _ (List.mem_append_left _ h)))
theorem mm_t4 : ∀ w ∈ tables_1_4, w ∈ lw_tbl := fun w h => by unfold lw_tbl tables_1; exact List.mem_append_right _ (List.mem_append_right _ (List.mem_append_right _ (List.mem_append_right _ (List.mem_append_left _ h))))
theorem mm_t5 : ∀ w ∈ tables_1_5, w ∈ lw_tbl := fun w h => by unfold lw_tbl tables_1; exact List.mem_append_right _ (List.mem_append_right _ (List.mem_append_right _ (List.mem_append_right _ (List.mem_append_right _ (List.mem_append_left _ h)))))
theorem mm_t6 : ∀ w ∈ tables_1_6, w ∈ lw_tbl := fun w h => by unfold lw_tbl tables_1; exact List.mem_append_right _ (List.mem_append_right _ (List.mem_append_right _ (List.mem_append_right _ (List.mem_append_right _ (List.mem_append_right _ (List.mem_append_left _ h))))))
theorem mm_t7 : ∀ w ∈ tables_1_7, w ∈ lw_tbl := fun w h => by unfold lw_tbl tables_1; exact List.mem_append_right _ (List.mem_append_right _ (List.mem_append_right _ (List.mem_append_right _ (List.mem_append_right _ (List.mem_append_right _ (List.mem_append_right _ h))))))
theorem mm_tbk {w : Cond} {l : List Cond} (hl : ∀ w ∈ l, w ∈ lw_tbl) (i : Nat) (h : l[i]? = some w) (hg : goodWord w = true) : w ∈ mm_T := List.mem_filter.mpr ⟨hl w (List.mem_of_getElem? h), hg⟩
theorem mm_tbl {w : Cond} (i : Nat) (h : lw_tbl[i]? = some w) (hg : goodWord w = true) : w ∈ mm_T := List.mem_filter.mpr ⟨List.mem_of_getElem? h, hg⟩
def mm_ck {α : Type} (i : Int32) (n : Nat) (X : Option α) : Option α := if i < 0 ∨ n ≤ i.toNatClampNeg then none else X
def mm_bz {α : Type} (x : Int32) (X : Option α) : Option α := if x = 0 ∨ x = 1 then X else none
def mm_nz {α : Type} (x : Int32) (X : Option α) : Option α := if x = 0 then none else X
def mm_nzL {α : Type} (x : Int64) (X : Option α) : Option α := if x = 0 then none else X
def mm_let {σ α : Type} (x : σ) (k : σ → Option α) : Option α := k x
def mm_bi {σ α : Type} (F : Option (σ × mm_M)) (k : σ → mm_M → Option α) : Option α := match F with
  | none => none
  | some r => k r.1 r.2
def mm_bv {α : Type} (F : Option mm_M) (k : mm_M → Option α) : Option α := match F with
  | none => none
  | some r => k r
theorem mm_ck_some {α : Type} {i : Int32} {n : Nat} {X : Option α} {r : α} (h : mm_ck i n X = some r) : vp_in i n ∧ X = some r := by
  unfold mm_ck at h
  split at h
  · cases h
  · exact ⟨by assumption, h⟩
theorem mm_bz_some {α : Type} {x : Int32} {X : Option α} {r : α} (h : mm_bz x X = some r) : (x = 0 ∨ x = 1) ∧ X = some r := by
  unfold mm_bz at h
  split at h
  · exact ⟨by assumption, h⟩
  · cases h
theorem mm_nz_some {α : Type} {x : Int32} {X : Option α} {r : α} (h : mm_nz x X = some r) : (¬ x = 0) ∧ X = some r := by
  unfold mm_nz at h
  split at h
  · cases h
  · exact ⟨by assumption, h⟩
theorem mm_nzL_some {α : Type} {x : Int64} {X : Option α} {r : α} (h : mm_nzL x X = some r) : (¬ x = 0) ∧ X = some r := by
  unfold mm_nzL at h
  split at h
  · cases h
  · exact ⟨by assumption, h⟩
theorem mm_bi_some {σ α : Type} {F : Option (σ × mm_M)} {k : σ → mm_M → Option α} {r : α} (h : mm_bi F k = some r) : ∃ x M, F = some (x, M) ∧ k x M = some r := by
  unfold mm_bi at h
  cases F with
  | none => cases h
  | some q => exact ⟨q.1, q.2, rfl, h⟩
theorem mm_bv_some {α : Type} {F : Option mm_M} {k : mm_M → Option α} {r : α} (h : mm_bv F k = some r) : ∃ M, F = some M ∧ k M = some r := by
  unfold mm_bv at h
  cases F with
  | none => cases h
  | some q => exact ⟨q, rfl, h⟩
/-! locals: a sorted list by places -/
def mm_st (i : Nat) (v : Value) : mm_L → mm_L
  | [] => [(i, v)]
  | q :: r => cond (Nat.blt q.1 i) (cond (Nat.beq (q.1 + 1) i && Nat.beq q.2.category 2) (mm_st i v r) (q :: mm_st i v r)) (cond (Nat.beq q.1 i) (mm_st i v r) (q :: mm_st i v r))
def mm_st2 (i : Nat) (v : Value) : mm_L → mm_L
  | [] => [(i, v)]
  | q :: r => cond (Nat.beq q.1 i || (Nat.beq q.1 (i + 1) || (Nat.beq (q.1 + 1) i && Nat.beq q.2.category 2))) (mm_st2 i v r) (q :: mm_st2 i v r)
theorem mm_st_mem {i : Nat} {v : Value} : ∀ {L : mm_L} {q : Nat × Value}, q ∈ mm_st i v L → q = (i, v) ∨ (q ∈ L ∧ ¬ q.1 = i ∧ ¬ (q.1 + 1 = i ∧ q.2.category = 2))
  | [], q, h => by
    simp [mm_st] at h
    exact Or.inl h
  | a :: r, q, h => by
    unfold mm_st at h
    have ih := @mm_st_mem i v r q
    have step : q ∈ mm_st i v r → q = (i, v) ∨ (q ∈ a :: r ∧ ¬ q.1 = i ∧ ¬ (q.1 + 1 = i ∧ q.2.category = 2)) := fun h => (ih h).elim Or.inl (fun h => Or.inr ⟨List.mem_cons_of_mem _ h.1, h.2⟩)
    cases hb : Nat.blt a.1 i with
    | true =>
      rw [hb] at h
      simp only [cond_true] at h
      cases hc : (Nat.beq (a.1 + 1) i && Nat.beq a.2.category 2) with
      | true => rw [hc] at h; exact step h
      | false =>
        rw [hc] at h
        simp only [cond_false] at h
        rcases List.mem_cons.mp h with rfl | h
        · refine Or.inr ⟨List.mem_cons_self, ?_, ?_⟩
          · have : q.1 + 1 ≤ i := Nat.le_of_ble_eq_true hb
            omega
          · rintro ⟨h1, h2⟩
            rw [h1, h2] at hc
            simp at hc
        · exact step h
    | false =>
      rw [hb] at h
      simp only [cond_false] at h
      cases hc : Nat.beq a.1 i with
      | true => rw [hc] at h; exact step h
      | false =>
        rw [hc] at h
        simp only [cond_false] at h
        have h1 : ¬ a.1 + 1 ≤ i := fun z => by
          have z2 : Nat.blt a.1 i = true := Nat.ble_eq_true_of_le z
          rw [hb] at z2
          cases z2
        have h2 : ¬ a.1 = i := fun z => by
          have z2 : Nat.beq a.1 i = true := by rw [z]; exact Nat.beq_refl i
          rw [hc] at z2
          cases z2
        rcases List.mem_cons.mp h with rfl | h
        · exact Or.inr ⟨List.mem_cons_self, h2, fun z => by omega⟩
        · exact step h
theorem mm_st2_mem {i : Nat} {v : Value} : ∀ {L : mm_L} {q : Nat × Value}, q ∈ mm_st2 i v L → q = (i, v) ∨ (q ∈ L ∧ ¬ q.1 = i ∧ ¬ q.1 = i + 1 ∧ ¬ (q.1 + 1 = i ∧ q.2.category = 2))
  | [], q, h => by
    simp [mm_st2] at h
    exact Or.inl h
  | a :: r, q, h => by
    unfold mm_st2 at h
    have ih := @mm_st2_mem i v r q
    have step : q ∈ mm_st2 i v r → q = (i, v) ∨ (q ∈ a :: r ∧ ¬ q.1 = i ∧ ¬ q.1 = i + 1 ∧ ¬ (q.1 + 1 = i ∧ q.2.category = 2)) := fun h => (ih h).elim Or.inl (fun h => Or.inr ⟨List.mem_cons_of_mem _ h.1, h.2⟩)
    cases hb : (Nat.beq a.1 i || (Nat.beq a.1 (i + 1) || (Nat.beq (a.1 + 1) i && Nat.beq a.2.category 2))) with
    | true => rw [hb] at h; exact step h
    | false =>
      rw [hb] at h
      simp only [cond_false] at h
      rcases List.mem_cons.mp h with rfl | h
      · refine Or.inr ⟨List.mem_cons_self, fun z => ?_, fun z => ?_, fun z => ?_⟩
        · rw [z, Nat.beq_refl] at hb
          cases hb
        · rw [z, Nat.beq_refl] at hb
          cases hx : Nat.beq (i + 1) i <;> rw [hx] at hb <;> cases hb
        · rw [z.1, z.2, Nat.beq_refl] at hb
          cases hx : Nat.beq q.1 i <;> cases hy : Nat.beq q.1 (i + 1) <;> rw [hx, hy] at hb <;> cases hb
      · exact step h
theorem mm_cat (ad : Nat → Nat) (v : Value) : (mm_conc ad v).category = v.category := by cases v <;> rfl
theorem mm_cL_at {ad : Nat → Nat} {L : mm_L} {k i : Nat} {v : Value} (h : L[k]? = some (i, v)) : (mm_cL ad L)[k]? = some (i, mm_conc ad v) := by
  simp [mm_cL, h]
theorem mm_has1 {ls : Array Slot} {nL i : Nat} {v : Value} {ad : Nat → Nat} {L L' : mm_L} (hL : mm_st i v L = L') (h : lv_has ls nL ((i, mm_conc ad v) :: (mm_cL ad L).filter (fun q => !(q.1 == i) && !(q.1 + 1 == i && q.2.category == 2)))) : lv_has ls nL (mm_cL ad L') := by
  subst hL
  refine ⟨h.1, h.2.1, fun q hq => h.2.2 q ?_⟩
  obtain ⟨a, ha, rfl⟩ := List.mem_map.mp hq
  rcases mm_st_mem ha with rfl | ⟨h1, h2, h3⟩
  · exact List.mem_cons_self
  · refine List.mem_cons_of_mem _ (List.mem_filter.mpr ⟨List.mem_map.mpr ⟨a, h1, rfl⟩, ?_⟩)
    simp only [Bool.and_eq_true, Bool.not_eq_true', beq_eq_false_iff_ne, Bool.and_eq_false_iff, mm_cat]
    refine ⟨h2, ?_⟩
    by_cases hz : a.1 + 1 = i
    · exact Or.inr (fun z => h3 ⟨hz, z⟩)
    · exact Or.inl hz
theorem mm_has2 {ls : Array Slot} {nL i : Nat} {v : Value} {ad : Nat → Nat} {L L' : mm_L} (hL : mm_st2 i v L = L') (h : lv_has ls nL ((i, mm_conc ad v) :: (mm_cL ad L).filter (fun q => !(q.1 == i) && (!(q.1 == i + 1) && !(q.1 + 1 == i && q.2.category == 2))))) : lv_has ls nL (mm_cL ad L') := by
  subst hL
  refine ⟨h.1, h.2.1, fun q hq => h.2.2 q ?_⟩
  obtain ⟨a, ha, rfl⟩ := List.mem_map.mp hq
  rcases mm_st2_mem ha with rfl | ⟨h1, h2, h4, h3⟩
  · exact List.mem_cons_self
  · refine List.mem_cons_of_mem _ (List.mem_filter.mpr ⟨List.mem_map.mpr ⟨a, h1, rfl⟩, ?_⟩)
    simp only [Bool.and_eq_true, Bool.not_eq_true', beq_eq_false_iff_ne, Bool.and_eq_false_iff, mm_cat]
    refine ⟨h2, h4, ?_⟩
    by_cases hz : a.1 + 1 = i
    · exact Or.inr (fun z => h3 ⟨hz, z⟩)
    · exact Or.inl hz

section SIM
variable {α : Type} {S : mm_S} {Y : mm_Y} {d pc pc' tgt : Nat} {off : Int} {L L' L0 : mm_L} {st : List Value} {M : mm_M} {fin : α → Option Value × mm_M} {X X1 X2 : Option α}
theorem sim_none : Sim S Y d pc L st M fin (none : Option α) := fun res h => by cases h
theorem sim_let {σ : Type} {x : σ} {k : σ → Option α} (h : Sim S Y d pc L st M fin (k x)) : Sim S Y d pc L st M fin (mm_let x k) := h
/-- a number on the stack gets a name -/
theorem sim_nmi {x : Int32} {k : Int32 → Option α} (h : ∀ y : Int32, Sim S Y d pc L (.int y :: st) M fin (k y)) : Sim S Y d pc L (.int x :: st) M fin (mm_let x k) := h x
theorem sim_nml {x : Int64} {k : Int64 → Option α} (h : ∀ y : Int64, Sim S Y d pc L (.long y :: st) M fin (k y)) : Sim S Y d pc L (.long x :: st) M fin (mm_let x k) := h x
theorem sim_nmM {k : mm_M → Option α} (h : ∀ M' : mm_M, Sim S Y d pc L st M' fin (k M')) : Sim S Y d pc L st M fin (mm_let M k) := h M
/-- fewer locals suffice -/
theorem sim_sub (is : List Nat) (hs : is.filterMap (fun i => L[i]?) = L0) (h : Sim S Y d pc L0 st M fin X) : Sim S Y d pc L st M fin X := by
  intro res hr p l e s m args below meth c D cA ad hc H locs ls hP hS hl
  refine h res hr p l e s m args below meth c D cA ad hc H locs ls hP hS ⟨hl.1, hl.2.1, fun q hq => hl.2.2 q ?_⟩
  subst hs
  obtain ⟨a, ha, rfl⟩ := List.mem_map.mp hq
  obtain ⟨i, -, hi⟩ := List.mem_filterMap.mp ha
  exact List.mem_map.mpr ⟨a, List.mem_of_getElem? hi, rfl⟩
theorem sim_iconst {n : Int} (v : Int32) (hd : mm_d Y pc (.iconst n) 1 pc') (hv : Int32.ofInt n = v) (h : Sim S Y d pc' L (.int v :: st) M fin X) : Sim S Y d pc L st M fin X := by
  obtain ⟨hd, rfl⟩ := hd
  intro res hr p l e s m args below meth c D cA ad hc H locs ls hP hS hl
  exact lv_iconst hc.1 hc.2.1 hd hv (h res hr p l e s m args below meth c D cA ad hc H locs ls hP hS hl)
theorem sim_bipush {n : Int} (v : Int32) (hd : mm_d Y pc (.bipush n) 2 pc') (hv : (Int8.ofInt n).toInt32 = v) (h : Sim S Y d pc' L (.int v :: st) M fin X) : Sim S Y d pc L st M fin X := by
  obtain ⟨hd, rfl⟩ := hd
  intro res hr p l e s m args below meth c D cA ad hc H locs ls hP hS hl
  exact lv_bipush hc.1 hc.2.1 hd hv (h res hr p l e s m args below meth c D cA ad hc H locs ls hP hS hl)
theorem sim_sipush {n : Int} (v : Int32) (hd : mm_d Y pc (.sipush n) 3 pc') (hv : (Int16.ofInt n).toInt32 = v) (h : Sim S Y d pc' L (.int v :: st) M fin X) : Sim S Y d pc L st M fin X := by
  obtain ⟨hd, rfl⟩ := hd
  intro res hr p l e s m args below meth c D cA ad hc H locs ls hP hS hl
  exact lv_sipush hc.1 hc.2.1 hd hv (h res hr p l e s m args below meth c D cA ad hc H locs ls hP hS hl)
theorem sim_lconst {n : Fin 2} (v : Int64) (hd : mm_d Y pc (.lconst n) 1 pc') (hv : Int64.ofNat (n : Nat) = v) (h : Sim S Y d pc' L (.long v :: st) M fin X) : Sim S Y d pc L st M fin X := by
  obtain ⟨hd, rfl⟩ := hd
  intro res hr p l e s m args below meth c D cA ad hc H locs ls hP hS hl
  exact lv_lconst hc.1 hc.2.1 hd hv (h res hr p l e s m args below meth c D cA ad hc H locs ls hP hS hl)
theorem sim_ldc {index : Nat} (v : Int32) (hd : mm_d Y pc (.ldc index) 2 pc') (hw : Cond.constant Y.1.cls index v ∈ mm_T) (h : Sim S Y d pc' L (.int v :: st) M fin X) : Sim S Y d pc L st M fin X := by
  obtain ⟨hd, rfl⟩ := hd
  intro res hr p l e s m args below meth c D cA ad hc H locs ls hP hS hl
  exact lv_ldc hc.1 hc.2.1 hc.2.2.2.2.2.1 (hc.2.2.2.2.2.2.1 _ hw) hd (h res hr p l e s m args below meth c D cA ad hc H locs ls hP hS hl)
theorem sim_ldcw {index : Nat} (v : Int32) (hd : mm_d Y pc (.ldc_w index) 3 pc') (hw : Cond.constant Y.1.cls index v ∈ mm_T) (h : Sim S Y d pc' L (.int v :: st) M fin X) : Sim S Y d pc L st M fin X := by
  obtain ⟨hd, rfl⟩ := hd
  intro res hr p l e s m args below meth c D cA ad hc H locs ls hP hS hl
  exact lv_ldcw hc.1 hc.2.1 hc.2.2.2.2.2.1 (hc.2.2.2.2.2.2.1 _ hw) hd (h res hr p l e s m args below meth c D cA ad hc H locs ls hP hS hl)
theorem sim_ldc2 {index : Nat} (v : Int64) (hd : mm_d Y pc (.ldc2_w index) 3 pc') (hw : Cond.constantLong Y.1.cls index v ∈ mm_T) (h : Sim S Y d pc' L (.long v :: st) M fin X) : Sim S Y d pc L st M fin X := by
  obtain ⟨hd, rfl⟩ := hd
  intro res hr p l e s m args below meth c D cA ad hc H locs ls hP hS hl
  exact lv_ldc2 hc.1 hc.2.1 hc.2.2.2.2.2.1 (hc.2.2.2.2.2.2.1 _ hw) hd (h res hr p l e s m args below meth c D cA ad hc H locs ls hP hS hl)
theorem sim_iload_n {n : Fin 4} {i : Nat} {x : Int32} (k : Nat) (hd : mm_d Y pc (.iload_n n) 1 pc') (hi : (n : Nat) = i) (hk : L[k]? = some (i, .int x)) (h : Sim S Y d pc' L (.int x :: st) M fin X) : Sim S Y d pc L st M fin X := by
  obtain ⟨hd, rfl⟩ := hd
  intro res hr p l e s m args below meth c D cA ad hc H locs ls hP hS hl
  exact lv_iload_n hc.1 hc.2.1 hd hi (lv_at hl k (mm_cL_at hk)) (h res hr p l e s m args below meth c D cA ad hc H locs ls hP hS hl)
theorem sim_iload {i : Nat} {x : Int32} (k : Nat) (hd : mm_d Y pc (.iload i) 2 pc') (hk : L[k]? = some (i, .int x)) (h : Sim S Y d pc' L (.int x :: st) M fin X) : Sim S Y d pc L st M fin X := by
  obtain ⟨hd, rfl⟩ := hd
  intro res hr p l e s m args below meth c D cA ad hc H locs ls hP hS hl
  exact lv_iload hc.1 hc.2.1 hd (lv_at hl k (mm_cL_at hk)) (h res hr p l e s m args below meth c D cA ad hc H locs ls hP hS hl)
theorem sim_istore_n {n : Fin 4} {i : Nat} {x : Int32} (hd : mm_d Y pc (.istore_n n) 1 pc') (hi : (n : Nat) = i) (hn : i < Y.2.2.1) (hL : mm_st i (.int x) L = L') (h : Sim S Y d pc' L' st M fin X) : Sim S Y d pc L (.int x :: st) M fin X := by
  obtain ⟨hd, rfl⟩ := hd
  intro res hr p l e s m args below meth c D cA ad hc H locs ls hP hS hl
  exact lv_istore_n hc.1 hc.2.1 hd hi hl hn rfl (fun ls hl => (h res hr p l e s m args below meth c D cA ad hc H locs ls hP hS (mm_has1 hL hl)))
theorem sim_istore {i : Nat} {x : Int32} (hd : mm_d Y pc (.istore i) 2 pc') (hn : i < Y.2.2.1) (hL : mm_st i (.int x) L = L') (h : Sim S Y d pc' L' st M fin X) : Sim S Y d pc L (.int x :: st) M fin X := by
  obtain ⟨hd, rfl⟩ := hd
  intro res hr p l e s m args below meth c D cA ad hc H locs ls hP hS hl
  exact lv_istore hc.1 hc.2.1 hd hl hn rfl (fun ls hl => (h res hr p l e s m args below meth c D cA ad hc H locs ls hP hS (mm_has1 hL hl)))
theorem sim_lload_n {n : Fin 4} {i : Nat} {x : Int64} (k : Nat) (hd : mm_d Y pc (.lload_n n) 1 pc') (hi : (n : Nat) = i) (hk : L[k]? = some (i, .long x)) (h : Sim S Y d pc' L (.long x :: st) M fin X) : Sim S Y d pc L st M fin X := by
  obtain ⟨hd, rfl⟩ := hd
  intro res hr p l e s m args below meth c D cA ad hc H locs ls hP hS hl
  exact lv_lload_n hc.1 hc.2.1 hd hi (lv_at hl k (mm_cL_at hk)) (h res hr p l e s m args below meth c D cA ad hc H locs ls hP hS hl)
theorem sim_lload {i : Nat} {x : Int64} (k : Nat) (hd : mm_d Y pc (.lload i) 2 pc') (hk : L[k]? = some (i, .long x)) (h : Sim S Y d pc' L (.long x :: st) M fin X) : Sim S Y d pc L st M fin X := by
  obtain ⟨hd, rfl⟩ := hd
  intro res hr p l e s m args below meth c D cA ad hc H locs ls hP hS hl
  exact lv_lload hc.1 hc.2.1 hd (lv_at hl k (mm_cL_at hk)) (h res hr p l e s m args below meth c D cA ad hc H locs ls hP hS hl)
theorem sim_lstore_n {n : Fin 4} {i : Nat} {x : Int64} (hd : mm_d Y pc (.lstore_n n) 1 pc') (hi : (n : Nat) = i) (hn : i + 1 < Y.2.2.1) (hL : mm_st2 i (.long x) L = L') (h : Sim S Y d pc' L' st M fin X) : Sim S Y d pc L (.long x :: st) M fin X := by
  obtain ⟨hd, rfl⟩ := hd
  intro res hr p l e s m args below meth c D cA ad hc H locs ls hP hS hl
  exact lv_lstore_n hc.1 hc.2.1 hd hi hl hn rfl (fun ls hl => (h res hr p l e s m args below meth c D cA ad hc H locs ls hP hS (mm_has2 hL hl)))
theorem sim_lstore {i : Nat} {x : Int64} (hd : mm_d Y pc (.lstore i) 2 pc') (hn : i + 1 < Y.2.2.1) (hL : mm_st2 i (.long x) L = L') (h : Sim S Y d pc' L' st M fin X) : Sim S Y d pc L (.long x :: st) M fin X := by
  obtain ⟨hd, rfl⟩ := hd
  intro res hr p l e s m args below meth c D cA ad hc H locs ls hP hS hl
  exact lv_lstore hc.1 hc.2.1 hd hl hn rfl (fun ls hl => (h res hr p l e s m args below meth c D cA ad hc H locs ls hP hS (mm_has2 hL hl)))
theorem sim_aload_n {n : Fin 4} {i : Nat} {x : Nat} (k : Nat) (hd : mm_d Y pc (.aload_n n) 1 pc') (hi : (n : Nat) = i) (hk : L[k]? = some (i, .ref x)) (h : Sim S Y d pc' L (.ref x :: st) M fin X) : Sim S Y d pc L st M fin X := by
  obtain ⟨hd, rfl⟩ := hd
  intro res hr p l e s m args below meth c D cA ad hc H locs ls hP hS hl
  exact lv_aload_n hc.1 hc.2.1 hd hi (lv_at hl k (mm_cL_at hk)) (h res hr p l e s m args below meth c D cA ad hc H locs ls hP hS hl)
theorem sim_aload {i : Nat} {x : Nat} (k : Nat) (hd : mm_d Y pc (.aload i) 2 pc') (hk : L[k]? = some (i, .ref x)) (h : Sim S Y d pc' L (.ref x :: st) M fin X) : Sim S Y d pc L st M fin X := by
  obtain ⟨hd, rfl⟩ := hd
  intro res hr p l e s m args below meth c D cA ad hc H locs ls hP hS hl
  exact lv_aload hc.1 hc.2.1 hd (lv_at hl k (mm_cL_at hk)) (h res hr p l e s m args below meth c D cA ad hc H locs ls hP hS hl)
theorem sim_astore_n {n : Fin 4} {i : Nat} {x : Nat} (hd : mm_d Y pc (.astore_n n) 1 pc') (hi : (n : Nat) = i) (hn : i < Y.2.2.1) (hL : mm_st i (.ref x) L = L') (h : Sim S Y d pc' L' st M fin X) : Sim S Y d pc L (.ref x :: st) M fin X := by
  obtain ⟨hd, rfl⟩ := hd
  intro res hr p l e s m args below meth c D cA ad hc H locs ls hP hS hl
  exact lv_astore_n hc.1 hc.2.1 hd hi hl hn rfl (fun ls hl => (h res hr p l e s m args below meth c D cA ad hc H locs ls hP hS (mm_has1 hL hl)))
theorem sim_astore {i : Nat} {x : Nat} (hd : mm_d Y pc (.astore i) 2 pc') (hn : i < Y.2.2.1) (hL : mm_st i (.ref x) L = L') (h : Sim S Y d pc' L' st M fin X) : Sim S Y d pc L (.ref x :: st) M fin X := by
  obtain ⟨hd, rfl⟩ := hd
  intro res hr p l e s m args below meth c D cA ad hc H locs ls hP hS hl
  exact lv_astore hc.1 hc.2.1 hd hl hn rfl (fun ls hl => (h res hr p l e s m args below meth c D cA ad hc H locs ls hP hS (mm_has1 hL hl)))
theorem sim_iinc {i : Nat} {n : Int} {x v : Int32} (k : Nat) (hd : mm_d Y pc (.iinc i n) 3 pc') (hn : i < Y.2.2.1) (hk : L[k]? = some (i, .int x)) (hv : x + Int32.ofInt n = v) (hL : mm_st i (.int v) L = L') (h : Sim S Y d pc' L' st M fin X) : Sim S Y d pc L st M fin X := by
  obtain ⟨hd, rfl⟩ := hd
  intro res hr p l e s m args below meth c D cA ad hc H locs ls hP hS hl
  exact lv_iinc (k := k) hc.1 hc.2.1 hd hl (mm_cL_at hk) hv hn rfl (fun ls hl => h res hr p l e s m args below meth c D cA ad hc H locs ls hP hS (mm_has1 (v := .int v) hL hl))
theorem sim_iadd {x y : Int32} (hd : mm_d Y pc (.iadd) 1 pc') (h : Sim S Y d pc' L (.int (x + y) :: st) M fin X) : Sim S Y d pc L (.int y :: .int x :: st) M fin X := by
  obtain ⟨hd, rfl⟩ := hd
  intro res hr p l e s m args below meth c D cA ad hc H locs ls hP hS hl
  exact lv_iadd hc.1 hc.2.1 hd (h res hr p l e s m args below meth c D cA ad hc H locs ls hP hS hl)
theorem sim_isub {x y : Int32} (hd : mm_d Y pc (.isub) 1 pc') (h : Sim S Y d pc' L (.int (x - y) :: st) M fin X) : Sim S Y d pc L (.int y :: .int x :: st) M fin X := by
  obtain ⟨hd, rfl⟩ := hd
  intro res hr p l e s m args below meth c D cA ad hc H locs ls hP hS hl
  exact lv_isub hc.1 hc.2.1 hd (h res hr p l e s m args below meth c D cA ad hc H locs ls hP hS hl)
theorem sim_imul {x y : Int32} (hd : mm_d Y pc (.imul) 1 pc') (h : Sim S Y d pc' L (.int (x * y) :: st) M fin X) : Sim S Y d pc L (.int y :: .int x :: st) M fin X := by
  obtain ⟨hd, rfl⟩ := hd
  intro res hr p l e s m args below meth c D cA ad hc H locs ls hP hS hl
  exact lv_imul hc.1 hc.2.1 hd (h res hr p l e s m args below meth c D cA ad hc H locs ls hP hS hl)
theorem sim_iand {x y : Int32} (hd : mm_d Y pc (.iand) 1 pc') (h : Sim S Y d pc' L (.int (x &&& y) :: st) M fin X) : Sim S Y d pc L (.int y :: .int x :: st) M fin X := by
  obtain ⟨hd, rfl⟩ := hd
  intro res hr p l e s m args below meth c D cA ad hc H locs ls hP hS hl
  exact lv_iand hc.1 hc.2.1 hd (h res hr p l e s m args below meth c D cA ad hc H locs ls hP hS hl)
theorem sim_ior {x y : Int32} (hd : mm_d Y pc (.ior) 1 pc') (h : Sim S Y d pc' L (.int (x ||| y) :: st) M fin X) : Sim S Y d pc L (.int y :: .int x :: st) M fin X := by
  obtain ⟨hd, rfl⟩ := hd
  intro res hr p l e s m args below meth c D cA ad hc H locs ls hP hS hl
  exact lv_ior hc.1 hc.2.1 hd (h res hr p l e s m args below meth c D cA ad hc H locs ls hP hS hl)
theorem sim_ixor {x y : Int32} (hd : mm_d Y pc (.ixor) 1 pc') (h : Sim S Y d pc' L (.int (x ^^^ y) :: st) M fin X) : Sim S Y d pc L (.int y :: .int x :: st) M fin X := by
  obtain ⟨hd, rfl⟩ := hd
  intro res hr p l e s m args below meth c D cA ad hc H locs ls hP hS hl
  exact lv_ixor hc.1 hc.2.1 hd (h res hr p l e s m args below meth c D cA ad hc H locs ls hP hS hl)
theorem sim_ishl {x y : Int32} (hd : mm_d Y pc (.ishl) 1 pc') (h : Sim S Y d pc' L (.int (x <<< (y &&& 31)) :: st) M fin X) : Sim S Y d pc L (.int y :: .int x :: st) M fin X := by
  obtain ⟨hd, rfl⟩ := hd
  intro res hr p l e s m args below meth c D cA ad hc H locs ls hP hS hl
  exact lv_ishl hc.1 hc.2.1 hd (h res hr p l e s m args below meth c D cA ad hc H locs ls hP hS hl)
theorem sim_ishr {x y : Int32} (hd : mm_d Y pc (.ishr) 1 pc') (h : Sim S Y d pc' L (.int (x >>> (y &&& 31)) :: st) M fin X) : Sim S Y d pc L (.int y :: .int x :: st) M fin X := by
  obtain ⟨hd, rfl⟩ := hd
  intro res hr p l e s m args below meth c D cA ad hc H locs ls hP hS hl
  exact lv_ishr hc.1 hc.2.1 hd (h res hr p l e s m args below meth c D cA ad hc H locs ls hP hS hl)
theorem sim_iushr {x y : Int32} (hd : mm_d Y pc (.iushr) 1 pc') (h : Sim S Y d pc' L (.int (x.toUInt32 >>> (y.toUInt32 &&& Int32.toUInt32 31)).toInt32 :: st) M fin X) : Sim S Y d pc L (.int y :: .int x :: st) M fin X := by
  obtain ⟨hd, rfl⟩ := hd
  intro res hr p l e s m args below meth c D cA ad hc H locs ls hP hS hl
  exact lv_iushr hc.1 hc.2.1 hd rfl (h res hr p l e s m args below meth c D cA ad hc H locs ls hP hS hl)
theorem sim_ladd {x y : Int64} (hd : mm_d Y pc (.ladd) 1 pc') (h : Sim S Y d pc' L (.long (x + y) :: st) M fin X) : Sim S Y d pc L (.long y :: .long x :: st) M fin X := by
  obtain ⟨hd, rfl⟩ := hd
  intro res hr p l e s m args below meth c D cA ad hc H locs ls hP hS hl
  exact lv_ladd hc.1 hc.2.1 hd (h res hr p l e s m args below meth c D cA ad hc H locs ls hP hS hl)
theorem sim_lsub {x y : Int64} (hd : mm_d Y pc (.lsub) 1 pc') (h : Sim S Y d pc' L (.long (x - y) :: st) M fin X) : Sim S Y d pc L (.long y :: .long x :: st) M fin X := by
  obtain ⟨hd, rfl⟩ := hd
  intro res hr p l e s m args below meth c D cA ad hc H locs ls hP hS hl
  exact lv_lsub hc.1 hc.2.1 hd (h res hr p l e s m args below meth c D cA ad hc H locs ls hP hS hl)
theorem sim_lmul {x y : Int64} (hd : mm_d Y pc (.lmul) 1 pc') (h : Sim S Y d pc' L (.long (x * y) :: st) M fin X) : Sim S Y d pc L (.long y :: .long x :: st) M fin X := by
  obtain ⟨hd, rfl⟩ := hd
  intro res hr p l e s m args below meth c D cA ad hc H locs ls hP hS hl
  exact lv_lmul hc.1 hc.2.1 hd (h res hr p l e s m args below meth c D cA ad hc H locs ls hP hS hl)
theorem sim_land {x y : Int64} (hd : mm_d Y pc (.land) 1 pc') (h : Sim S Y d pc' L (.long (x &&& y) :: st) M fin X) : Sim S Y d pc L (.long y :: .long x :: st) M fin X := by
  obtain ⟨hd, rfl⟩ := hd
  intro res hr p l e s m args below meth c D cA ad hc H locs ls hP hS hl
  exact lv_land hc.1 hc.2.1 hd (h res hr p l e s m args below meth c D cA ad hc H locs ls hP hS hl)
theorem sim_lor {x y : Int64} (hd : mm_d Y pc (.lor) 1 pc') (h : Sim S Y d pc' L (.long (x ||| y) :: st) M fin X) : Sim S Y d pc L (.long y :: .long x :: st) M fin X := by
  obtain ⟨hd, rfl⟩ := hd
  intro res hr p l e s m args below meth c D cA ad hc H locs ls hP hS hl
  exact lv_lor hc.1 hc.2.1 hd (h res hr p l e s m args below meth c D cA ad hc H locs ls hP hS hl)
theorem sim_lxor {x y : Int64} (hd : mm_d Y pc (.lxor) 1 pc') (h : Sim S Y d pc' L (.long (x ^^^ y) :: st) M fin X) : Sim S Y d pc L (.long y :: .long x :: st) M fin X := by
  obtain ⟨hd, rfl⟩ := hd
  intro res hr p l e s m args below meth c D cA ad hc H locs ls hP hS hl
  exact lv_lxor hc.1 hc.2.1 hd (h res hr p l e s m args below meth c D cA ad hc H locs ls hP hS hl)
theorem sim_ineg {x : Int32} (hd : mm_d Y pc (.ineg) 1 pc') (h : Sim S Y d pc' L (.int (-x) :: st) M fin X) : Sim S Y d pc L (.int x :: st) M fin X := by
  obtain ⟨hd, rfl⟩ := hd
  intro res hr p l e s m args below meth c D cA ad hc H locs ls hP hS hl
  exact lv_ineg hc.1 hc.2.1 hd (h res hr p l e s m args below meth c D cA ad hc H locs ls hP hS hl)
theorem sim_lneg {x : Int64} (hd : mm_d Y pc (.lneg) 1 pc') (h : Sim S Y d pc' L (.long (-x) :: st) M fin X) : Sim S Y d pc L (.long x :: st) M fin X := by
  obtain ⟨hd, rfl⟩ := hd
  intro res hr p l e s m args below meth c D cA ad hc H locs ls hP hS hl
  exact lv_lneg hc.1 hc.2.1 hd (h res hr p l e s m args below meth c D cA ad hc H locs ls hP hS hl)
theorem sim_i2l {x : Int32} (hd : mm_d Y pc (.i2l) 1 pc') (h : Sim S Y d pc' L (.long x.toInt64 :: st) M fin X) : Sim S Y d pc L (.int x :: st) M fin X := by
  obtain ⟨hd, rfl⟩ := hd
  intro res hr p l e s m args below meth c D cA ad hc H locs ls hP hS hl
  exact lv_i2l hc.1 hc.2.1 hd rfl (h res hr p l e s m args below meth c D cA ad hc H locs ls hP hS hl)
theorem sim_l2i {x : Int64} (hd : mm_d Y pc (.l2i) 1 pc') (h : Sim S Y d pc' L (.int x.toInt32 :: st) M fin X) : Sim S Y d pc L (.long x :: st) M fin X := by
  obtain ⟨hd, rfl⟩ := hd
  intro res hr p l e s m args below meth c D cA ad hc H locs ls hP hS hl
  exact lv_l2i hc.1 hc.2.1 hd rfl (h res hr p l e s m args below meth c D cA ad hc H locs ls hP hS hl)
theorem sim_lushr {x : Int64} {y : Int32} (hd : mm_d Y pc (.lushr) 1 pc') (h : Sim S Y d pc' L (.long (x.toUInt64 >>> (y.toInt64.toUInt64 &&& Int64.toUInt64 63)).toInt64 :: st) M fin X) : Sim S Y d pc L (.int y :: .long x :: st) M fin X := by
  obtain ⟨hd, rfl⟩ := hd
  intro res hr p l e s m args below meth c D cA ad hc H locs ls hP hS hl
  exact lv_lushr hc.1 hc.2.1 hd rfl (h res hr p l e s m args below meth c D cA ad hc H locs ls hP hS hl)
theorem sim_lshl {x : Int64} {y : Int32} (hd : mm_d Y pc (.lshl) 1 pc') (h : Sim S Y d pc' L (.long (x <<< (y.toInt64 &&& 63)) :: st) M fin X) : Sim S Y d pc L (.int y :: .long x :: st) M fin X := by
  obtain ⟨hd, rfl⟩ := hd
  intro res hr p l e s m args below meth c D cA ad hc H locs ls hP hS hl
  exact lv_lshl hc.1 hc.2.1 hd rfl (h res hr p l e s m args below meth c D cA ad hc H locs ls hP hS hl)
theorem sim_lshr {x : Int64} {y : Int32} (hd : mm_d Y pc (.lshr) 1 pc') (h : Sim S Y d pc' L (.long (x >>> (y.toInt64 &&& 63)) :: st) M fin X) : Sim S Y d pc L (.int y :: .long x :: st) M fin X := by
  obtain ⟨hd, rfl⟩ := hd
  intro res hr p l e s m args below meth c D cA ad hc H locs ls hP hS hl
  exact lv_lshr hc.1 hc.2.1 hd rfl (h res hr p l e s m args below meth c D cA ad hc H locs ls hP hS hl)
theorem sim_lcmp {x y : Int64} (hd : mm_d Y pc (.lcmp) 1 pc') (h : Sim S Y d pc' L (.int (lg_cmp x y) :: st) M fin X) : Sim S Y d pc L (.long y :: .long x :: st) M fin X := by
  obtain ⟨hd, rfl⟩ := hd
  intro res hr p l e s m args below meth c D cA ad hc H locs ls hP hS hl
  exact W.lcmp hc.1 hc.2.1 hd (h res hr p l e s m args below meth c D cA ad hc H locs ls hP hS hl)
theorem sim_idiv {x y : Int32} (hd : mm_d Y pc (.idiv) 1 pc') (h : Sim S Y d pc' L (.int (x / y) :: st) M fin X) : Sim S Y d pc L (.int y :: .int x :: st) M fin (mm_nz y X) := by
  obtain ⟨hd, rfl⟩ := hd
  intro res hr p l e s m args below meth c D cA ad hc H locs ls hP hS hl
  obtain ⟨h0, hr⟩ := mm_nz_some hr
  exact lv_idiv hc.1 hc.2.1 hd h0 (h res hr p l e s m args below meth c D cA ad hc H locs ls hP hS hl)
theorem sim_idivc {x y : Int32} (hd : mm_d Y pc (.idiv) 1 pc') (h0 : ¬ y = 0) (h : Sim S Y d pc' L (.int (x / y) :: st) M fin X) : Sim S Y d pc L (.int y :: .int x :: st) M fin X := by
  obtain ⟨hd, rfl⟩ := hd
  intro res hr p l e s m args below meth c D cA ad hc H locs ls hP hS hl
  exact lv_idiv hc.1 hc.2.1 hd h0 (h res hr p l e s m args below meth c D cA ad hc H locs ls hP hS hl)
theorem sim_irem {x y : Int32} (hd : mm_d Y pc (.irem) 1 pc') (h : Sim S Y d pc' L (.int (x - x / y * y) :: st) M fin X) : Sim S Y d pc L (.int y :: .int x :: st) M fin (mm_nz y X) := by
  obtain ⟨hd, rfl⟩ := hd
  intro res hr p l e s m args below meth c D cA ad hc H locs ls hP hS hl
  obtain ⟨h0, hr⟩ := mm_nz_some hr
  exact lv_irem hc.1 hc.2.1 hd h0 (h res hr p l e s m args below meth c D cA ad hc H locs ls hP hS hl)
theorem sim_iremc {x y : Int32} (hd : mm_d Y pc (.irem) 1 pc') (h0 : ¬ y = 0) (h : Sim S Y d pc' L (.int (x - x / y * y) :: st) M fin X) : Sim S Y d pc L (.int y :: .int x :: st) M fin X := by
  obtain ⟨hd, rfl⟩ := hd
  intro res hr p l e s m args below meth c D cA ad hc H locs ls hP hS hl
  exact lv_irem hc.1 hc.2.1 hd h0 (h res hr p l e s m args below meth c D cA ad hc H locs ls hP hS hl)
theorem sim_ldiv {x y : Int64} (hd : mm_d Y pc (.ldiv) 1 pc') (h : Sim S Y d pc' L (.long (x / y) :: st) M fin X) : Sim S Y d pc L (.long y :: .long x :: st) M fin (mm_nzL y X) := by
  obtain ⟨hd, rfl⟩ := hd
  intro res hr p l e s m args below meth c D cA ad hc H locs ls hP hS hl
  obtain ⟨h0, hr⟩ := mm_nzL_some hr
  exact lv_ldiv hc.1 hc.2.1 hd h0 (h res hr p l e s m args below meth c D cA ad hc H locs ls hP hS hl)
theorem sim_ldivc {x y : Int64} (hd : mm_d Y pc (.ldiv) 1 pc') (h0 : ¬ y = 0) (h : Sim S Y d pc' L (.long (x / y) :: st) M fin X) : Sim S Y d pc L (.long y :: .long x :: st) M fin X := by
  obtain ⟨hd, rfl⟩ := hd
  intro res hr p l e s m args below meth c D cA ad hc H locs ls hP hS hl
  exact lv_ldiv hc.1 hc.2.1 hd h0 (h res hr p l e s m args below meth c D cA ad hc H locs ls hP hS hl)
theorem sim_lrem {x y : Int64} (hd : mm_d Y pc (.lrem) 1 pc') (h : Sim S Y d pc' L (.long (x - x / y * y) :: st) M fin X) : Sim S Y d pc L (.long y :: .long x :: st) M fin (mm_nzL y X) := by
  obtain ⟨hd, rfl⟩ := hd
  intro res hr p l e s m args below meth c D cA ad hc H locs ls hP hS hl
  obtain ⟨h0, hr⟩ := mm_nzL_some hr
  exact lv_lrem hc.1 hc.2.1 hd h0 (h res hr p l e s m args below meth c D cA ad hc H locs ls hP hS hl)
theorem sim_lremc {x y : Int64} (hd : mm_d Y pc (.lrem) 1 pc') (h0 : ¬ y = 0) (h : Sim S Y d pc' L (.long (x - x / y * y) :: st) M fin X) : Sim S Y d pc L (.long y :: .long x :: st) M fin X := by
  obtain ⟨hd, rfl⟩ := hd
  intro res hr p l e s m args below meth c D cA ad hc H locs ls hP hS hl
  exact lv_lrem hc.1 hc.2.1 hd h0 (h res hr p l e s m args below meth c D cA ad hc H locs ls hP hS hl)
theorem sim_dup {va : Value} (hd : mm_d Y pc (.dup) 1 pc') (hva : va.category = 1) (h : Sim S Y d pc' L (va :: va :: st) M fin X) : Sim S Y d pc L (va :: st) M fin X := by
  obtain ⟨hd, rfl⟩ := hd
  intro res hr p l e s m args below meth c D cA ad hc H locs ls hP hS hl
  exact lv_dup hc.1 hc.2.1 hd ((mm_cat ad va).trans hva) (h res hr p l e s m args below meth c D cA ad hc H locs ls hP hS hl)
theorem sim_pop {va : Value} (hd : mm_d Y pc (.pop) 1 pc') (hva : va.category = 1) (h : Sim S Y d pc' L (st) M fin X) : Sim S Y d pc L (va :: st) M fin X := by
  obtain ⟨hd, rfl⟩ := hd
  intro res hr p l e s m args below meth c D cA ad hc H locs ls hP hS hl
  exact lv_pop hc.1 hc.2.1 hd ((mm_cat ad va).trans hva) (h res hr p l e s m args below meth c D cA ad hc H locs ls hP hS hl)
theorem sim_dup_x1 {va vb : Value} (hd : mm_d Y pc (.dup_x1) 1 pc') (hva : va.category = 1) (hvb : vb.category = 1) (h : Sim S Y d pc' L (va :: vb :: va :: st) M fin X) : Sim S Y d pc L (va :: vb :: st) M fin X := by
  obtain ⟨hd, rfl⟩ := hd
  intro res hr p l e s m args below meth c D cA ad hc H locs ls hP hS hl
  exact lv_dup_x1 hc.1 hc.2.1 hd ((mm_cat ad va).trans hva) ((mm_cat ad vb).trans hvb) (h res hr p l e s m args below meth c D cA ad hc H locs ls hP hS hl)
theorem sim_dup_x2 {va vb vc : Value} (hd : mm_d Y pc (.dup_x2) 1 pc') (hva : va.category = 1) (hvb : vb.category = 1) (hvc : vc.category = 1) (h : Sim S Y d pc' L (va :: vb :: vc :: va :: st) M fin X) : Sim S Y d pc L (va :: vb :: vc :: st) M fin X := by
  obtain ⟨hd, rfl⟩ := hd
  intro res hr p l e s m args below meth c D cA ad hc H locs ls hP hS hl
  exact lv_dup_x2 hc.1 hc.2.1 hd ((mm_cat ad va).trans hva) ((mm_cat ad vb).trans hvb) ((mm_cat ad vc).trans hvc) (h res hr p l e s m args below meth c D cA ad hc H locs ls hP hS hl)
theorem sim_dup2_11 {va vb : Value} (hd : mm_d Y pc (.dup2) 1 pc') (hva : va.category = 1) (hvb : vb.category = 1) (h : Sim S Y d pc' L (va :: vb :: va :: vb :: st) M fin X) : Sim S Y d pc L (va :: vb :: st) M fin X := by
  obtain ⟨hd, rfl⟩ := hd
  intro res hr p l e s m args below meth c D cA ad hc H locs ls hP hS hl
  exact lv_dup2_11 hc.1 hc.2.1 hd ((mm_cat ad va).trans hva) ((mm_cat ad vb).trans hvb) (h res hr p l e s m args below meth c D cA ad hc H locs ls hP hS hl)
theorem sim_dup2_2 {va : Value} (hd : mm_d Y pc (.dup2) 1 pc') (ha : va.category = 2) (h : Sim S Y d pc' L (va :: va :: st) M fin X) : Sim S Y d pc L (va :: st) M fin X := by
  obtain ⟨hd, rfl⟩ := hd
  intro res hr p l e s m args below meth c D cA ad hc H locs ls hP hS hl
  exact lv_dup2_2 hc.1 hc.2.1 hd ((mm_cat ad va).trans ha) (h res hr p l e s m args below meth c D cA ad hc H locs ls hP hS hl)
theorem sim_if_eq {x : Int32} (hd : mm_dj Y pc (.ifCond .eq off) 3 pc' off tgt) (h1 : Sim S Y d tgt L st M fin X1) (h2 : Sim S Y d pc' L st M fin X2) : Sim S Y d pc L (.int x :: st) M fin (if x = 0 then X1 else X2) := by
  obtain ⟨⟨hd, rfl⟩, ht⟩ := hd
  intro res hr p l e s m args below meth c D cA ad hc H locs ls hP hS hl
  exact lv_if_eq hc.1 hc.2.1 hd ht (fun hq => h1 res (by rw [if_pos hq] at hr; exact hr) p l e s m args below meth c D cA ad hc H locs ls hP hS hl) (fun hq => h2 res (by rw [if_neg hq] at hr; exact hr) p l e s m args below meth c D cA ad hc H locs ls hP hS hl)
theorem sim_icmp_eq {x y : Int32} (hd : mm_dj Y pc (.if_icmp .eq off) 3 pc' off tgt) (h1 : Sim S Y d tgt L st M fin X1) (h2 : Sim S Y d pc' L st M fin X2) : Sim S Y d pc L (.int y :: .int x :: st) M fin (if x = y then X1 else X2) := by
  obtain ⟨⟨hd, rfl⟩, ht⟩ := hd
  intro res hr p l e s m args below meth c D cA ad hc H locs ls hP hS hl
  exact lv_icmp_eq hc.1 hc.2.1 hd ht (fun hq => h1 res (by rw [if_pos hq] at hr; exact hr) p l e s m args below meth c D cA ad hc H locs ls hP hS hl) (fun hq => h2 res (by rw [if_neg hq] at hr; exact hr) p l e s m args below meth c D cA ad hc H locs ls hP hS hl)
theorem sim_if_ne {x : Int32} (hd : mm_dj Y pc (.ifCond .ne off) 3 pc' off tgt) (h1 : Sim S Y d tgt L st M fin X1) (h2 : Sim S Y d pc' L st M fin X2) : Sim S Y d pc L (.int x :: st) M fin (if x = 0 then X2 else X1) := by
  obtain ⟨⟨hd, rfl⟩, ht⟩ := hd
  intro res hr p l e s m args below meth c D cA ad hc H locs ls hP hS hl
  exact lv_if_ne hc.1 hc.2.1 hd ht (fun hq => h1 res (by rw [if_neg hq] at hr; exact hr) p l e s m args below meth c D cA ad hc H locs ls hP hS hl) (fun hq => h2 res (by rw [if_pos hq] at hr; exact hr) p l e s m args below meth c D cA ad hc H locs ls hP hS hl)
theorem sim_icmp_ne {x y : Int32} (hd : mm_dj Y pc (.if_icmp .ne off) 3 pc' off tgt) (h1 : Sim S Y d tgt L st M fin X1) (h2 : Sim S Y d pc' L st M fin X2) : Sim S Y d pc L (.int y :: .int x :: st) M fin (if x = y then X2 else X1) := by
  obtain ⟨⟨hd, rfl⟩, ht⟩ := hd
  intro res hr p l e s m args below meth c D cA ad hc H locs ls hP hS hl
  exact lv_icmp_ne hc.1 hc.2.1 hd ht (fun hq => h1 res (by rw [if_neg hq] at hr; exact hr) p l e s m args below meth c D cA ad hc H locs ls hP hS hl) (fun hq => h2 res (by rw [if_pos hq] at hr; exact hr) p l e s m args below meth c D cA ad hc H locs ls hP hS hl)
theorem sim_if_lt {x : Int32} (hd : mm_dj Y pc (.ifCond .lt off) 3 pc' off tgt) (h1 : Sim S Y d tgt L st M fin X1) (h2 : Sim S Y d pc' L st M fin X2) : Sim S Y d pc L (.int x :: st) M fin (if x < 0 then X1 else X2) := by
  obtain ⟨⟨hd, rfl⟩, ht⟩ := hd
  intro res hr p l e s m args below meth c D cA ad hc H locs ls hP hS hl
  exact lv_if_lt hc.1 hc.2.1 hd ht (fun hq => h1 res (by rw [if_pos hq] at hr; exact hr) p l e s m args below meth c D cA ad hc H locs ls hP hS hl) (fun hq => h2 res (by rw [if_neg hq] at hr; exact hr) p l e s m args below meth c D cA ad hc H locs ls hP hS hl)
theorem sim_icmp_lt {x y : Int32} (hd : mm_dj Y pc (.if_icmp .lt off) 3 pc' off tgt) (h1 : Sim S Y d tgt L st M fin X1) (h2 : Sim S Y d pc' L st M fin X2) : Sim S Y d pc L (.int y :: .int x :: st) M fin (if x < y then X1 else X2) := by
  obtain ⟨⟨hd, rfl⟩, ht⟩ := hd
  intro res hr p l e s m args below meth c D cA ad hc H locs ls hP hS hl
  exact lv_icmp_lt hc.1 hc.2.1 hd ht (fun hq => h1 res (by rw [if_pos hq] at hr; exact hr) p l e s m args below meth c D cA ad hc H locs ls hP hS hl) (fun hq => h2 res (by rw [if_neg hq] at hr; exact hr) p l e s m args below meth c D cA ad hc H locs ls hP hS hl)
theorem sim_if_ge {x : Int32} (hd : mm_dj Y pc (.ifCond .ge off) 3 pc' off tgt) (h1 : Sim S Y d tgt L st M fin X1) (h2 : Sim S Y d pc' L st M fin X2) : Sim S Y d pc L (.int x :: st) M fin (if 0 ≤ x then X1 else X2) := by
  obtain ⟨⟨hd, rfl⟩, ht⟩ := hd
  intro res hr p l e s m args below meth c D cA ad hc H locs ls hP hS hl
  exact lv_if_ge hc.1 hc.2.1 hd ht (fun hq => h1 res (by rw [if_pos hq] at hr; exact hr) p l e s m args below meth c D cA ad hc H locs ls hP hS hl) (fun hq => h2 res (by rw [if_neg hq] at hr; exact hr) p l e s m args below meth c D cA ad hc H locs ls hP hS hl)
theorem sim_icmp_ge {x y : Int32} (hd : mm_dj Y pc (.if_icmp .ge off) 3 pc' off tgt) (h1 : Sim S Y d tgt L st M fin X1) (h2 : Sim S Y d pc' L st M fin X2) : Sim S Y d pc L (.int y :: .int x :: st) M fin (if y ≤ x then X1 else X2) := by
  obtain ⟨⟨hd, rfl⟩, ht⟩ := hd
  intro res hr p l e s m args below meth c D cA ad hc H locs ls hP hS hl
  exact lv_icmp_ge hc.1 hc.2.1 hd ht (fun hq => h1 res (by rw [if_pos hq] at hr; exact hr) p l e s m args below meth c D cA ad hc H locs ls hP hS hl) (fun hq => h2 res (by rw [if_neg hq] at hr; exact hr) p l e s m args below meth c D cA ad hc H locs ls hP hS hl)
theorem sim_if_gt {x : Int32} (hd : mm_dj Y pc (.ifCond .gt off) 3 pc' off tgt) (h1 : Sim S Y d tgt L st M fin X1) (h2 : Sim S Y d pc' L st M fin X2) : Sim S Y d pc L (.int x :: st) M fin (if 0 < x then X1 else X2) := by
  obtain ⟨⟨hd, rfl⟩, ht⟩ := hd
  intro res hr p l e s m args below meth c D cA ad hc H locs ls hP hS hl
  exact lv_if_gt hc.1 hc.2.1 hd ht (fun hq => h1 res (by rw [if_pos hq] at hr; exact hr) p l e s m args below meth c D cA ad hc H locs ls hP hS hl) (fun hq => h2 res (by rw [if_neg hq] at hr; exact hr) p l e s m args below meth c D cA ad hc H locs ls hP hS hl)
theorem sim_icmp_gt {x y : Int32} (hd : mm_dj Y pc (.if_icmp .gt off) 3 pc' off tgt) (h1 : Sim S Y d tgt L st M fin X1) (h2 : Sim S Y d pc' L st M fin X2) : Sim S Y d pc L (.int y :: .int x :: st) M fin (if y < x then X1 else X2) := by
  obtain ⟨⟨hd, rfl⟩, ht⟩ := hd
  intro res hr p l e s m args below meth c D cA ad hc H locs ls hP hS hl
  exact lv_icmp_gt hc.1 hc.2.1 hd ht (fun hq => h1 res (by rw [if_pos hq] at hr; exact hr) p l e s m args below meth c D cA ad hc H locs ls hP hS hl) (fun hq => h2 res (by rw [if_neg hq] at hr; exact hr) p l e s m args below meth c D cA ad hc H locs ls hP hS hl)
theorem sim_if_le {x : Int32} (hd : mm_dj Y pc (.ifCond .le off) 3 pc' off tgt) (h1 : Sim S Y d tgt L st M fin X1) (h2 : Sim S Y d pc' L st M fin X2) : Sim S Y d pc L (.int x :: st) M fin (if x ≤ 0 then X1 else X2) := by
  obtain ⟨⟨hd, rfl⟩, ht⟩ := hd
  intro res hr p l e s m args below meth c D cA ad hc H locs ls hP hS hl
  exact lv_if_le hc.1 hc.2.1 hd ht (fun hq => h1 res (by rw [if_pos hq] at hr; exact hr) p l e s m args below meth c D cA ad hc H locs ls hP hS hl) (fun hq => h2 res (by rw [if_neg hq] at hr; exact hr) p l e s m args below meth c D cA ad hc H locs ls hP hS hl)
theorem sim_icmp_le {x y : Int32} (hd : mm_dj Y pc (.if_icmp .le off) 3 pc' off tgt) (h1 : Sim S Y d tgt L st M fin X1) (h2 : Sim S Y d pc' L st M fin X2) : Sim S Y d pc L (.int y :: .int x :: st) M fin (if x ≤ y then X1 else X2) := by
  obtain ⟨⟨hd, rfl⟩, ht⟩ := hd
  intro res hr p l e s m args below meth c D cA ad hc H locs ls hP hS hl
  exact lv_icmp_le hc.1 hc.2.1 hd ht (fun hq => h1 res (by rw [if_pos hq] at hr; exact hr) p l e s m args below meth c D cA ad hc H locs ls hP hS hl) (fun hq => h2 res (by rw [if_neg hq] at hr; exact hr) p l e s m args below meth c D cA ad hc H locs ls hP hS hl)
theorem sim_goto (hd : mm_dj Y pc (.goto off) 3 pc' off tgt) (h : Sim S Y d tgt L st M fin X) : Sim S Y d pc L st M fin X := by
  obtain ⟨⟨hd, rfl⟩, ht⟩ := hd
  intro res hr p l e s m args below meth c D cA ad hc H locs ls hP hS hl
  exact lv_goto hc.1 hc.2.1 hd ht (h res hr p l e s m args below meth c D cA ad hc H locs ls hP hS hl)
theorem sim_geti {o ci k t idx : Nat} {fs : List (Nat × Nat)} {ty : FieldType} {fb : Bool} (hd : mm_d Y pc (.getfield idx) 3 pc') (hf : mm_fl Y.1.cls idx ci k ty fb) (ho : mm_ob S o ci fs) (hk : fs[k]? = some (0, t)) (h : Sim S Y d pc' L (.int (mI M o k) :: st) M fin X) : Sim S Y d pc L (.ref o :: st) M fin X := by
  obtain ⟨hd, rfl⟩ := hd
  obtain ⟨C, T, N, ty0, hcl, hkN, hlk, -, -⟩ := hf
  intro res hr p l e s m args below meth c D cA ad hc H locs ls hP hS hl
  have he : (mm_W S cA ad M)[o]? = some (ad o, .inr (ci, mm_fs ad M o fs)) := by
    rw [mm_W_at ho.1]
    unfold mm_cell
    rw [ho.2]
  exact va_get (D := D) (ci := ci) (v := .int (mI M o k)) hc.1 hc.2.1 hc.2.2.2.2.2.2.1 hcl.2.1 hc.2.2.2.2.2.1 hc.2.2.2.2.2.2.2.1 hP o he hcl.1 k hkN (hc.2.2.2.2.2.2.1 _ hlk) (fun _ h9 => h9) (mm_fs_at hk) hd (h res hr p l e s m args below meth c D cA ad hc H locs ls hP hS hl)
theorem sim_getz {o ci k t idx : Nat} {fs : List (Nat × Nat)} {ty : FieldType} {fb : Bool} (hd : mm_d Y pc (.getfield idx) 3 pc') (hf : mm_fl Y.1.cls idx ci k ty fb) (ho : mm_ob S o ci fs) (hk : fs[k]? = some (3, t)) (h : Sim S Y d pc' L (.int (mI M o k) :: st) M fin X) : Sim S Y d pc L (.ref o :: st) M fin X := by
  obtain ⟨hd, rfl⟩ := hd
  obtain ⟨C, T, N, ty0, hcl, hkN, hlk, -, -⟩ := hf
  intro res hr p l e s m args below meth c D cA ad hc H locs ls hP hS hl
  have he : (mm_W S cA ad M)[o]? = some (ad o, .inr (ci, mm_fs ad M o fs)) := by
    rw [mm_W_at ho.1]
    unfold mm_cell
    rw [ho.2]
  exact va_get (D := D) (ci := ci) (v := .int (mI M o k)) hc.1 hc.2.1 hc.2.2.2.2.2.2.1 hcl.2.1 hc.2.2.2.2.2.1 hc.2.2.2.2.2.2.2.1 hP o he hcl.1 k hkN (hc.2.2.2.2.2.2.1 _ hlk) (fun _ h9 => h9) (mm_fs_at hk) hd (h res hr p l e s m args below meth c D cA ad hc H locs ls hP hS hl)
theorem sim_getl {o ci k t idx : Nat} {fs : List (Nat × Nat)} {ty : FieldType} {fb : Bool} (hd : mm_d Y pc (.getfield idx) 3 pc') (hf : mm_fl Y.1.cls idx ci k ty fb) (ho : mm_ob S o ci fs) (hk : fs[k]? = some (1, t)) (h : Sim S Y d pc' L (.long (mL M o k) :: st) M fin X) : Sim S Y d pc L (.ref o :: st) M fin X := by
  obtain ⟨hd, rfl⟩ := hd
  obtain ⟨C, T, N, ty0, hcl, hkN, hlk, -, -⟩ := hf
  intro res hr p l e s m args below meth c D cA ad hc H locs ls hP hS hl
  have he : (mm_W S cA ad M)[o]? = some (ad o, .inr (ci, mm_fs ad M o fs)) := by
    rw [mm_W_at ho.1]
    unfold mm_cell
    rw [ho.2]
  exact va_get (D := D) (ci := ci) (v := .long (mL M o k)) hc.1 hc.2.1 hc.2.2.2.2.2.2.1 hcl.2.1 hc.2.2.2.2.2.1 hc.2.2.2.2.2.2.2.1 hP o he hcl.1 k hkN (hc.2.2.2.2.2.2.1 _ hlk) (fun _ h9 => h9) (mm_fs_at hk) hd (h res hr p l e s m args below meth c D cA ad hc H locs ls hP hS hl)
theorem sim_geta {o ci k t idx : Nat} {fs : List (Nat × Nat)} {ty : FieldType} {fb : Bool} (hd : mm_d Y pc (.getfield idx) 3 pc') (hf : mm_fl Y.1.cls idx ci k ty fb) (ho : mm_ob S o ci fs) (hk : fs[k]? = some (2, t)) (h : Sim S Y d pc' L (.ref (t) :: st) M fin X) : Sim S Y d pc L (.ref o :: st) M fin X := by
  obtain ⟨hd, rfl⟩ := hd
  obtain ⟨C, T, N, ty0, hcl, hkN, hlk, -, -⟩ := hf
  intro res hr p l e s m args below meth c D cA ad hc H locs ls hP hS hl
  have he : (mm_W S cA ad M)[o]? = some (ad o, .inr (ci, mm_fs ad M o fs)) := by
    rw [mm_W_at ho.1]
    unfold mm_cell
    rw [ho.2]
  exact va_get (D := D) (ci := ci) (v := .ref (ad t)) hc.1 hc.2.1 hc.2.2.2.2.2.2.1 hcl.2.1 hc.2.2.2.2.2.1 hc.2.2.2.2.2.2.2.1 hP o he hcl.1 k hkN (hc.2.2.2.2.2.2.1 _ hlk) (fun _ h9 => h9) (mm_fs_at hk) hd (h res hr p l e s m args below meth c D cA ad hc H locs ls hP hS hl)
theorem sim_puti {o ci k t idx : Nat} {fs : List (Nat × Nat)} {v : Int32} (hd : mm_d Y pc (.putfield idx) 3 pc') (hf : mm_fl Y.1.cls idx ci k .int false) (ho : mm_ob S o ci fs) (hk : fs[k]? = some (0, t)) (h : Sim S Y d pc' L st (sI M o k v) fin X) : Sim S Y d pc L (.int v :: .ref o :: st) M fin X := by
  obtain ⟨hd, rfl⟩ := hd
  obtain ⟨C, T, N, ty0, hcl, hkN, hlk, hty, hfin⟩ := hf
  intro res hr p l e s m args below meth c D cA ad hc H locs ls hP hS hl
  have he : (mm_W S cA ad M)[o]? = some (ad o, .inr (ci, mm_fs ad M o fs)) := by
    rw [mm_W_at ho.1]
    unfold mm_cell
    rw [ho.2]
  have hs : (mm_W S cA ad M).set o (ad o, .inr (ci, (mm_fs ad M o fs).set k (.int v))) = mm_W S cA ad (sI M o k v) := by
    refine mm_W_set ?_ (fun j hj => mm_cell_sI_ne hj)
    unfold mm_cell
    rw [ho.2]
    simp only [mm_fs_sI hk (Or.inl rfl)]
  refine va_put (D := D) (ci := ci) (v := .int v) (ty := .int) hc.1 hc.2.1 hc.2.2.2.2.2.2.1 hcl.2.1 ty0 hcl.2.2.1 hcl.2.2.2 hc.2.2.2.2.2.1 hc.2.2.2.2.2.2.2.1 hP (mm_D hc.2.2.2.2.2.2.2.2.1) hS o he hcl.1 k hkN (hc.2.2.2.2.2.2.1 _ hlk) (fun _ h9 => h9) hfin (by rw [hcl.2.2.1 k hkN, hty]) rfl rfl (by rw [mm_fs_len]; exact (List.getElem?_eq_some_iff.mp hk).1) hd (fun H locs hP hD hS => ?_)
  rw [hs] at hP
  exact h res hr p l e s m args below meth c D cA ad hc H locs ls hP hS hl
theorem sim_putz {o ci k t idx : Nat} {fs : List (Nat × Nat)} {v : Int32} (hd : mm_d Y pc (.putfield idx) 3 pc') (hf : mm_fl Y.1.cls idx ci k .boolean false) (ho : mm_ob S o ci fs) (hk : fs[k]? = some (3, t)) (hz : v = 0 ∨ v = 1) (h : Sim S Y d pc' L st (sI M o k v) fin X) : Sim S Y d pc L (.int v :: .ref o :: st) M fin X := by
  obtain ⟨hd, rfl⟩ := hd
  obtain ⟨C, T, N, ty0, hcl, hkN, hlk, hty, hfin⟩ := hf
  intro res hr p l e s m args below meth c D cA ad hc H locs ls hP hS hl
  have he : (mm_W S cA ad M)[o]? = some (ad o, .inr (ci, mm_fs ad M o fs)) := by
    rw [mm_W_at ho.1]
    unfold mm_cell
    rw [ho.2]
  have hs : (mm_W S cA ad M).set o (ad o, .inr (ci, (mm_fs ad M o fs).set k (.int v))) = mm_W S cA ad (sI M o k v) := by
    refine mm_W_set ?_ (fun j hj => mm_cell_sI_ne hj)
    unfold mm_cell
    rw [ho.2]
    simp only [mm_fs_sI hk (Or.inr rfl)]
  refine va_put (D := D) (ci := ci) (v := .int v) (ty := .boolean) hc.1 hc.2.1 hc.2.2.2.2.2.2.1 hcl.2.1 ty0 hcl.2.2.1 hcl.2.2.2 hc.2.2.2.2.2.1 hc.2.2.2.2.2.2.2.1 hP (mm_D hc.2.2.2.2.2.2.2.2.1) hS o he hcl.1 k hkN (hc.2.2.2.2.2.2.1 _ hlk) (fun _ h9 => h9) hfin (by rw [hcl.2.2.1 k hkN, hty]) (by rcases hz with rfl | rfl <;> rfl) (by rcases hz with rfl | rfl <;> rfl) (by rw [mm_fs_len]; exact (List.getElem?_eq_some_iff.mp hk).1) hd (fun H locs hP hD hS => ?_)
  rw [hs] at hP
  exact h res hr p l e s m args below meth c D cA ad hc H locs ls hP hS hl
theorem sim_putl {o ci k t idx : Nat} {fs : List (Nat × Nat)} {v : Int64} (hd : mm_d Y pc (.putfield idx) 3 pc') (hf : mm_fl Y.1.cls idx ci k .long false) (ho : mm_ob S o ci fs) (hk : fs[k]? = some (1, t)) (h : Sim S Y d pc' L st (sL M o k v) fin X) : Sim S Y d pc L (.long v :: .ref o :: st) M fin X := by
  obtain ⟨hd, rfl⟩ := hd
  obtain ⟨C, T, N, ty0, hcl, hkN, hlk, hty, hfin⟩ := hf
  intro res hr p l e s m args below meth c D cA ad hc H locs ls hP hS hl
  have he : (mm_W S cA ad M)[o]? = some (ad o, .inr (ci, mm_fs ad M o fs)) := by
    rw [mm_W_at ho.1]
    unfold mm_cell
    rw [ho.2]
  have hs : (mm_W S cA ad M).set o (ad o, .inr (ci, (mm_fs ad M o fs).set k (.long v))) = mm_W S cA ad (sL M o k v) := by
    refine mm_W_set ?_ (fun j hj => mm_cell_sL_ne hj)
    unfold mm_cell
    rw [ho.2]
    simp only [mm_fs_sL hk rfl]
  refine va_put (D := D) (ci := ci) (v := .long v) (ty := .long) hc.1 hc.2.1 hc.2.2.2.2.2.2.1 hcl.2.1 ty0 hcl.2.2.1 hcl.2.2.2 hc.2.2.2.2.2.1 hc.2.2.2.2.2.2.2.1 hP (mm_D hc.2.2.2.2.2.2.2.2.1) hS o he hcl.1 k hkN (hc.2.2.2.2.2.2.1 _ hlk) (fun _ h9 => h9) hfin (by rw [hcl.2.2.1 k hkN, hty]) rfl rfl (by rw [mm_fs_len]; exact (List.getElem?_eq_some_iff.mp hk).1) hd (fun H locs hP hD hS => ?_)
  rw [hs] at hP
  exact h res hr p l e s m args below meth c D cA ad hc H locs ls hP hS hl
theorem sim_iald {o n : Nat} {i : Int32} (hd : mm_d Y pc (.iaload) 1 pc') (ho : mm_ar S o 0 n) (h : Sim S Y d pc' L (.int (mI M o i.toNatClampNeg) :: st) M fin X) : Sim S Y d pc L (.int i :: .ref o :: st) M fin (mm_ck i n X) := by
  obtain ⟨hd, rfl⟩ := hd
  intro res hr p l e s m args below meth c D cA ad hc H locs ls hP hS hl
  obtain ⟨hin, hr⟩ := mm_ck_some hr
  have he : (mm_W S cA ad M)[o]? = some (ad o, .inl (cA 0, n, .inl (fun j => mI M o j))) := by
    rw [mm_W_at ho.1]
    unfold mm_cell
    rw [ho.2]
    rfl
  exact va_iald hc.1 hc.2.1 hc.2.2.2.2.2.2.2.1 hP o 0 he rfl hin hd (h res hr p l e s m args below meth c D cA ad hc H locs ls hP hS hl)
theorem sim_zald {o n : Nat} {i : Int32} (hd : mm_d Y pc (.baload) 1 pc') (ho : mm_ar S o 1 n) (h : Sim S Y d pc' L (.int (mI M o i.toNatClampNeg) :: st) M fin X) : Sim S Y d pc L (.int i :: .ref o :: st) M fin (mm_ck i n X) := by
  obtain ⟨hd, rfl⟩ := hd
  intro res hr p l e s m args below meth c D cA ad hc H locs ls hP hS hl
  obtain ⟨hin, hr⟩ := mm_ck_some hr
  have he : (mm_W S cA ad M)[o]? = some (ad o, .inl (cA 1, n, .inl (fun j => mI M o j))) := by
    rw [mm_W_at ho.1]
    unfold mm_cell
    rw [ho.2]
    rfl
  exact va_zald hc.1 hc.2.1 hc.2.2.2.2.2.2.2.1 hP o 1 he rfl hin hd (h res hr p l e s m args below meth c D cA ad hc H locs ls hP hS hl)
theorem sim_iast {o n : Nat} {i x : Int32} (hd : mm_d Y pc (.iastore) 1 pc') (ho : mm_ar S o 0 n) (h : Sim S Y d pc' L st (sI M o i.toNatClampNeg x) fin X) : Sim S Y d pc L (.int x :: .int i :: .ref o :: st) M fin (mm_ck i n X) := by
  obtain ⟨hd, rfl⟩ := hd
  intro res hr p l e s m args below meth c D cA ad hc H locs ls hP hS hl
  obtain ⟨hin, hr⟩ := mm_ck_some hr
  have he : (mm_W S cA ad M)[o]? = some (ad o, .inl (cA 0, n, .inl (fun j => mI M o j))) := by
    rw [mm_W_at ho.1]
    unfold mm_cell
    rw [ho.2]
    rfl
  have hs : (mm_W S cA ad M).set o (ad o, .inl (cA 0, n, .inl (upd (fun j => mI M o j) i.toNatClampNeg x))) = mm_W S cA ad (sI M o i.toNatClampNeg x) := by
    refine mm_W_set ?_ (fun j hj => mm_cell_sI_ne hj)
    unfold mm_cell
    rw [ho.2]
    simp only [show ¬ (0 = 2) by decide, if_false]
    congr 4
    funext j
    simp [mI, sI, upd]
  refine va_iast hc.1 hc.2.1 hc.2.2.2.2.2.2.2.1 hP (mm_D hc.2.2.2.2.2.2.2.2.1) hS o 0 he rfl hin hd (fun H locs hP hD hS => ?_)
  have hP : va_P D mm_cl ((mm_W S cA ad M).set o (ad o, .inl (cA 0, n, .inl (upd (fun j => mI M o j) i.toNatClampNeg x)))) H := hP
  rw [hs] at hP
  exact h res hr p l e s m args below meth c D cA ad hc H locs ls hP hS hl
theorem sim_zast {o n : Nat} {i x : Int32} (hd : mm_d Y pc (.bastore) 1 pc') (ho : mm_ar S o 1 n) (h : Sim S Y d pc' L st (sI M o i.toNatClampNeg (x &&& 1)) fin X) : Sim S Y d pc L (.int x :: .int i :: .ref o :: st) M fin (mm_ck i n X) := by
  obtain ⟨hd, rfl⟩ := hd
  intro res hr p l e s m args below meth c D cA ad hc H locs ls hP hS hl
  obtain ⟨hin, hr⟩ := mm_ck_some hr
  have he : (mm_W S cA ad M)[o]? = some (ad o, .inl (cA 1, n, .inl (fun j => mI M o j))) := by
    rw [mm_W_at ho.1]
    unfold mm_cell
    rw [ho.2]
    rfl
  have hs : (mm_W S cA ad M).set o (ad o, .inl (cA 1, n, .inl (upd (fun j => mI M o j) i.toNatClampNeg (x &&& 1)))) = mm_W S cA ad (sI M o i.toNatClampNeg (x &&& 1)) := by
    refine mm_W_set ?_ (fun j hj => mm_cell_sI_ne hj)
    unfold mm_cell
    rw [ho.2]
    simp only [show ¬ (1 = 2) by decide, if_false]
    congr 4
    funext j
    simp [mI, sI, upd]
  refine va_zast hc.1 hc.2.1 hc.2.2.2.2.2.2.2.1 hP (mm_D hc.2.2.2.2.2.2.2.2.1) hS o 1 he rfl hin hd (fun H locs hP hD hS => ?_)
  have hP : va_P D mm_cl ((mm_W S cA ad M).set o (ad o, .inl (cA 1, n, .inl (upd (fun j => mI M o j) i.toNatClampNeg (x &&& 1))))) H := hP
  rw [hs] at hP
  exact h res hr p l e s m args below meth c D cA ad hc H locs ls hP hS hl
theorem sim_alen {o kd n : Nat} (v : Int32) (hd : mm_d Y pc (.arraylength) 1 pc') (ho : mm_ar S o kd n) (hkd : kd = 0 ∨ kd = 1) (hv : Int32.ofNat n = v) (h : Sim S Y d pc' L (.int v :: st) M fin X) : Sim S Y d pc L (.ref o :: st) M fin X := by
  obtain ⟨hd, rfl⟩ := hd
  intro res hr p l e s m args below meth c D cA ad hc H locs ls hP hS hl
  have he : (mm_W S cA ad M)[o]? = some (ad o, .inl (cA kd, n, .inl (fun j => mI M o j))) := by
    rw [mm_W_at ho.1]
    unfold mm_cell
    rw [ho.2]
    rcases hkd with rfl | rfl <;> rfl
  rcases hkd with rfl | rfl
  · exact va_alen (ty := .int) hc.1 hc.2.1 hc.2.2.2.2.2.2.2.1 hP o 0 he rfl hv hd (h res hr p l e s m args below meth c D cA ad hc H locs ls hP hS hl)
  · exact va_alen (ty := .boolean) hc.1 hc.2.1 hc.2.2.2.2.2.2.2.1 hP o 1 he rfl hv hd (h res hr p l e s m args below meth c D cA ad hc H locs ls hP hS hl)
/-! returns -/
theorem sim_iret {x : Int32} (hd : mm_d Y pc (.ireturn) 1 pc') (hr0 : Y.2.2.2 = some .int) : Sim S Y d pc L [.int x] M mm_fI (some (x, M)) := by
  intro res hr p l e s m args below meth c D cA ad hc H locs ls hP hS hl
  cases hr
  have hlocks : meth.locks = false := hc.2.2.2.2.1
  exact W.iret hc.1 hc.2.1 (hc.2.2.2.1.trans hr0) (fun t ht hW => ⟨rfl, by rw [ht]; exact hP, hS.F ht⟩) hS.2.2 hd.1
theorem sim_zret {x : Int32} (hd : mm_d Y pc (.ireturn) 1 pc') (hr0 : Y.2.2.2 = some .boolean) (hx : x &&& 1 = x) : Sim S Y d pc L [.int x] M mm_fI (some (x, M)) := by
  intro res hr p l e s m args below meth c D cA ad hc H locs ls hP hS hl
  cases hr
  have hlocks : meth.locks = false := hc.2.2.2.2.1
  exact W.zret hc.1 hc.2.1 (hc.2.2.2.1.trans hr0) (by show Value.int (x &&& 1) = .int x; rw [hx]) (fun t ht hW => ⟨rfl, by rw [ht]; exact hP, hS.F ht⟩) hS.2.2 hd.1
theorem sim_zretb {x : Int32} (hd : mm_d Y pc (.ireturn) 1 pc') (hr0 : Y.2.2.2 = some .boolean) : Sim S Y d pc L [.int x] M mm_fI (mm_bz x (some (x, M))) := by
  intro res hr
  obtain ⟨h0, hr⟩ := mm_bz_some hr
  exact sim_zret hd hr0 (by rcases h0 with rfl | rfl <;> rfl) res hr
theorem sim_lret {x : Int64} (hd : mm_d Y pc (.lreturn) 1 pc') (hr0 : Y.2.2.2 = some .long) : Sim S Y d pc L [.long x] M mm_fL (some (x, M)) := by
  intro res hr p l e s m args below meth c D cA ad hc H locs ls hP hS hl
  cases hr
  have hlocks : meth.locks = false := hc.2.2.2.2.1
  exact W.lret hc.1 hc.2.1 (hc.2.2.2.1.trans hr0) (fun t ht hW => ⟨rfl, by rw [ht]; exact hP, hS.F ht⟩) hS.2.2 hd.1
theorem sim_vret (hd : mm_d Y pc (.return_) 1 pc') (hr0 : Y.2.2.2 = none) : Sim S Y d pc L [] M mm_fV (some M) := by
  intro res hr p l e s m args below meth c D cA ad hc H locs ls hP hS hl
  cases hr
  have hlocks : meth.locks = false := hc.2.2.2.2.1
  exact W.vret hc.1 hc.2.1 (hc.2.2.2.1.trans hr0) (fun t ht hW => ⟨rfl, by rw [ht]; exact hP, hS.F ht⟩) hS.2.2 hd.1
theorem sim_putzb {o ci k t idx : Nat} {fs : List (Nat × Nat)} {v : Int32} (hd : mm_d Y pc (.putfield idx) 3 pc') (hf : mm_fl Y.1.cls idx ci k .boolean false) (ho : mm_ob S o ci fs) (hk : fs[k]? = some (3, t)) (h : Sim S Y d pc' L st (sI M o k v) fin X) : Sim S Y d pc L (.int v :: .ref o :: st) M fin (mm_bz v X) := by
  intro res hr
  obtain ⟨h0, hr⟩ := mm_bz_some hr
  exact sim_putz hd hf ho hk h0 h res hr
end SIM
/-- the fuel of every loop -/
def mm_fu : Nat := 100000
